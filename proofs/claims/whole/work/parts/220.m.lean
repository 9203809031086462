noncomputable def gX12_steps_126 (K38 : Mem → Nat → Int32 → Int32 → Option (Int32 × Mem)) (K47 : Mem → Nat → Int32 → Int32 → Int32 → Option (Int32 × Mem)) (M : Mem) (l0 : Nat) (l2 : Int32) (l3 : Int32) (l4 : Int32) : Option (Int32 × Mem) :=
  K47 M l0 l2 l3 (l4 + (1 : Int32))
noncomputable def gX12_steps_120 (K38 : Mem → Nat → Int32 → Int32 → Option (Int32 × Mem)) (K47 : Mem → Nat → Int32 → Int32 → Int32 → Option (Int32 × Mem)) (K57 : Mem → Nat → Int32 → Int32 → Int32 → Int32 → Option (Int32 × Mem)) (M : Mem) (l0 : Nat) (l2 : Int32) (l3 : Int32) (l4 : Int32) (l5 : Int32) : Option (Int32 × Mem) :=
  K57 M l0 l2 l3 l4 (l5 + (1 : Int32))
noncomputable def gX12_steps_57 (K38 : Mem → Nat → Int32 → Int32 → Option (Int32 × Mem)) (K47 : Mem → Nat → Int32 → Int32 → Int32 → Option (Int32 × Mem)) : Nat → Mem → Nat → Int32 → Int32 → Int32 → Int32 → Option (Int32 × Mem)
  | 0, _, _, _, _, _, _ => none
  | n + 1, M, l0, l2, l3, l4, l5 => if (4 : Int32) ≤ l5 then (gX12_steps_126 K38 K47 M l0 l2 l3 l4) else (ck (isK M l0 12) <| rb (mR M l0 40) fun b6 => ck (isK M b6 14) <| ck (inb l4 (mG M b6)) <| if (mI M b6 l4.toNatClampNeg) = l3 then (bd (fX12_next M l4 l5) fun x9 M9 => if x9 = (-1 : Int32) then (gX12_steps_120 K38 K47 (gX12_steps_57 K38 K47 n) M9 l0 l2 l3 l4 l5) else (ck (isK M9 l0 12) <| rb (mR M9 l0 40) fun b11 => ck (isK M9 b11 14) <| ck (inb x9 (mG M9 b11)) <| if (mI M9 b11 x9.toNatClampNeg) = (-5 : Int32) then (bd (fX12_isBald M9 l0 x9) fun x14 M14 => if x14 = 0 then (ck (isK M14 l0 12) <| rb (mR M14 l0 40) fun b16 => ck (isK M14 b16 14) <| ck (inb x9 (mG M14 b16)) <| gX12_steps_120 K38 K47 (gX12_steps_57 K38 K47 n) (stI M14 b16 x9.toNatClampNeg (l3 + (1 : Int32))) l0 l2 l3 l4 l5) else (gX12_steps_120 K38 K47 (gX12_steps_57 K38 K47 n) M14 l0 l2 l3 l4 l5)) else (gX12_steps_120 K38 K47 (gX12_steps_57 K38 K47 n) M9 l0 l2 l3 l4 l5))) else (gX12_steps_126 K38 K47 M l0 l2 l3 l4))
noncomputable def gX12_steps_47 (K38 : Mem → Nat → Int32 → Int32 → Option (Int32 × Mem)) : Nat → Mem → Nat → Int32 → Int32 → Int32 → Option (Int32 × Mem)
  | 0, _, _, _, _, _ => none
  | n + 1, M, l0, l2, l3, l4 => if (25 : Int32) ≤ l4 then (K38 M l0 l2 (l3 + (1 : Int32))) else (gX12_steps_57 K38 (gX12_steps_47 K38 n) FU M l0 l2 l3 l4 (0 : Int32))
noncomputable def gX12_steps_38  : Nat → Mem → Nat → Int32 → Int32 → Option (Int32 × Mem)
  | 0, _, _, _, _ => none
  | n + 1, M, l0, l2, l3 => if (25 : Int32) ≤ l3 then (ck (isK M l0 12) <| rb (mR M l0 40) fun b2 => ck (isK M b2 14) <| ck (inb l2 (mG M b2)) <| some ((mI M b2 l2.toNatClampNeg), M)) else (gX12_steps_47 (gX12_steps_38 n) FU M l0 l2 l3 (0 : Int32))
noncomputable def gX12_steps_29 (K2 : Mem → Nat → Int32 → Int32 → Int32 → Option (Int32 × Mem)) (M : Mem) (l0 : Nat) (l1 : Int32) (l2 : Int32) (l3 : Int32) (s0 : Int32) (s1 : Int32) (s2 : Nat) : Option (Int32 × Mem) :=
  ck (isK M s2 14) <| ck (inb s1 (mG M s2)) <| K2 (stI M s2 s1.toNatClampNeg s0) l0 l1 l2 (l3 + (1 : Int32))
noncomputable def gX12_steps_2  : Nat → Mem → Nat → Int32 → Int32 → Int32 → Option (Int32 × Mem)
  | 0, _, _, _, _, _ => none
  | n + 1, M, l0, l1, l2, l3 => if (25 : Int32) ≤ l3 then (gX12_steps_38 FU M l0 l2 (0 : Int32)) else (ck (isK M l0 12) <| rb (mR M l0 40) fun b20 => rb (mR M l0 4) fun b21 => ck (isK M b21 14) <| ck (inb l1 (mG M b21)) <| if l3 = (mI M b21 l1.toNatClampNeg) then (gX12_steps_29 (gX12_steps_2 n) M l0 l1 l2 l3 (0 : Int32) l3 b20) else (gX12_steps_29 (gX12_steps_2 n) M l0 l1 l2 l3 (-5 : Int32) l3 b20))
noncomputable def fX12_steps (M : Mem) (a0 : Nat) (a1 : Int32) (a2 : Int32) : Option (Int32 × Mem) :=
  gX12_steps_2 FU M a0 a1 a2 (0 : Int32)
set_option maxRecDepth 100000 in
set_option maxHeartbeats 4000000 in
theorem wX12_steps_126 {z : Zx} {fx : Fx} {al : Bool} {r : Nat} {N : Mem} {xr : Int32} (hz : Zok z fx al yX12_steps.cls yX12_steps.name cX12_steps (some .int) 7 (r + 2) 0 0 (some (.int xr)) N)  {K38 : Mem → Nat → Int32 → Int32 → Option (Int32 × Mem)} {K47 : Mem → Nat → Int32 → Int32 → Int32 → Option (Int32 × Mem)} (hK38 : ∀ {M : Mem} {l0 : Nat} {l2 : Int32} {l3 : Int32}, K38 M l0 l2 l3 = some (xr, N) → V z 38 [some (.ref l0), none, some (.int l2), some (.int l3), none, none, none] [] M 0 0) (hK47 : ∀ {M : Mem} {l0 : Nat} {l2 : Int32} {l3 : Int32} {l4 : Int32}, K47 M l0 l2 l3 l4 = some (xr, N) → V z 47 [some (.ref l0), none, some (.int l2), some (.int l3), some (.int l4), none, none] [] M 0 0) {M : Mem} {l0 : Nat} {l2 : Int32} {l3 : Int32} {l4 : Int32} (h : gX12_steps_126 K38 K47 M l0 l2 l3 l4 = some (xr, N)) : V z 126 [some (.ref l0), none, some (.int l2), some (.int l3), some (.int l4), none, none] [] M 0 0 := by
  unfold gX12_steps_126 at h
  refine v_iinc hz (v := (l4 + (1 : Int32))) (lw := [some (.ref l0), none, some (.int l2), some (.int l3), some (.int (l4 + (1 : Int32))), none, none]) rfl (congrArg (fun q => l4 + q) (show Int32.ofInt (1) = (1 : Int32) by decide)) rfl rfl dX12_steps_126 ?_
  refine v_goto (tgt := 47) hz dX12_steps_129 (by decide) ?_
  exact v_weak (lvle_s (lvle_n (lvle_s (lvle_s (lvle_s (lvle_n (lvle_n lvle_0))))))) (hK47 h)
set_option maxRecDepth 100000 in
set_option maxHeartbeats 4000000 in
theorem wX12_steps_120 {z : Zx} {fx : Fx} {al : Bool} {r : Nat} {N : Mem} {xr : Int32} (hz : Zok z fx al yX12_steps.cls yX12_steps.name cX12_steps (some .int) 7 (r + 2) 0 0 (some (.int xr)) N)  {K38 : Mem → Nat → Int32 → Int32 → Option (Int32 × Mem)} {K47 : Mem → Nat → Int32 → Int32 → Int32 → Option (Int32 × Mem)} {K57 : Mem → Nat → Int32 → Int32 → Int32 → Int32 → Option (Int32 × Mem)} (hK38 : ∀ {M : Mem} {l0 : Nat} {l2 : Int32} {l3 : Int32}, K38 M l0 l2 l3 = some (xr, N) → V z 38 [some (.ref l0), none, some (.int l2), some (.int l3), none, none, none] [] M 0 0) (hK47 : ∀ {M : Mem} {l0 : Nat} {l2 : Int32} {l3 : Int32} {l4 : Int32}, K47 M l0 l2 l3 l4 = some (xr, N) → V z 47 [some (.ref l0), none, some (.int l2), some (.int l3), some (.int l4), none, none] [] M 0 0) (hK57 : ∀ {M : Mem} {l0 : Nat} {l2 : Int32} {l3 : Int32} {l4 : Int32} {l5 : Int32}, K57 M l0 l2 l3 l4 l5 = some (xr, N) → V z 57 [some (.ref l0), none, some (.int l2), some (.int l3), some (.int l4), some (.int l5), none] [] M 0 0) {M : Mem} {l0 : Nat} {l2 : Int32} {l3 : Int32} {l4 : Int32} {l5 : Int32} (h : gX12_steps_120 K38 K47 K57 M l0 l2 l3 l4 l5 = some (xr, N)) : V z 120 [some (.ref l0), none, some (.int l2), some (.int l3), some (.int l4), some (.int l5), none] [] M 0 0 := by
  unfold gX12_steps_120 at h
  refine v_iinc hz (v := (l5 + (1 : Int32))) (lw := [some (.ref l0), none, some (.int l2), some (.int l3), some (.int l4), some (.int (l5 + (1 : Int32))), none]) rfl (congrArg (fun q => l5 + q) (show Int32.ofInt (1) = (1 : Int32) by decide)) rfl rfl dX12_steps_120 ?_
  refine v_goto (tgt := 57) hz dX12_steps_123 (by decide) ?_
  exact v_weak (lvle_s (lvle_n (lvle_s (lvle_s (lvle_s (lvle_s (lvle_n lvle_0))))))) (hK57 h)
set_option maxRecDepth 100000 in
set_option maxHeartbeats 4000000 in
theorem gX12_steps_57_s (K38 : Mem → Nat → Int32 → Int32 → Option (Int32 × Mem)) (K47 : Mem → Nat → Int32 → Int32 → Int32 → Option (Int32 × Mem)) (n : Nat) (M : Mem) (l0 : Nat) (l2 : Int32) (l3 : Int32) (l4 : Int32) (l5 : Int32) : gX12_steps_57 K38 K47 (n + 1) M l0 l2 l3 l4 l5 = (if (4 : Int32) ≤ l5 then (gX12_steps_126 K38 K47 M l0 l2 l3 l4) else (ck (isK M l0 12) <| rb (mR M l0 40) fun b6 => ck (isK M b6 14) <| ck (inb l4 (mG M b6)) <| if (mI M b6 l4.toNatClampNeg) = l3 then (bd (fX12_next M l4 l5) fun x9 M9 => if x9 = (-1 : Int32) then (gX12_steps_120 K38 K47 (gX12_steps_57 K38 K47 n) M9 l0 l2 l3 l4 l5) else (ck (isK M9 l0 12) <| rb (mR M9 l0 40) fun b11 => ck (isK M9 b11 14) <| ck (inb x9 (mG M9 b11)) <| if (mI M9 b11 x9.toNatClampNeg) = (-5 : Int32) then (bd (fX12_isBald M9 l0 x9) fun x14 M14 => if x14 = 0 then (ck (isK M14 l0 12) <| rb (mR M14 l0 40) fun b16 => ck (isK M14 b16 14) <| ck (inb x9 (mG M14 b16)) <| gX12_steps_120 K38 K47 (gX12_steps_57 K38 K47 n) (stI M14 b16 x9.toNatClampNeg (l3 + (1 : Int32))) l0 l2 l3 l4 l5) else (gX12_steps_120 K38 K47 (gX12_steps_57 K38 K47 n) M14 l0 l2 l3 l4 l5)) else (gX12_steps_120 K38 K47 (gX12_steps_57 K38 K47 n) M9 l0 l2 l3 l4 l5))) else (gX12_steps_126 K38 K47 M l0 l2 l3 l4))) := rfl
set_option maxRecDepth 100000 in
set_option maxHeartbeats 4000000 in
theorem wX12_steps_57 {z : Zx} {fx : Fx} {al : Bool} {r : Nat} {N : Mem} {xr : Int32} (hz : Zok z fx al yX12_steps.cls yX12_steps.name cX12_steps (some .int) 7 (r + 2) 0 0 (some (.int xr)) N)  {K38 : Mem → Nat → Int32 → Int32 → Option (Int32 × Mem)} {K47 : Mem → Nat → Int32 → Int32 → Int32 → Option (Int32 × Mem)} (hK38 : ∀ {M : Mem} {l0 : Nat} {l2 : Int32} {l3 : Int32}, K38 M l0 l2 l3 = some (xr, N) → V z 38 [some (.ref l0), none, some (.int l2), some (.int l3), none, none, none] [] M 0 0) (hK47 : ∀ {M : Mem} {l0 : Nat} {l2 : Int32} {l3 : Int32} {l4 : Int32}, K47 M l0 l2 l3 l4 = some (xr, N) → V z 47 [some (.ref l0), none, some (.int l2), some (.int l3), some (.int l4), none, none] [] M 0 0) : ∀ {n : Nat} {M : Mem} {l0 : Nat} {l2 : Int32} {l3 : Int32} {l4 : Int32} {l5 : Int32}, gX12_steps_57 K38 K47 n M l0 l2 l3 l4 l5 = some (xr, N) → V z 57 [some (.ref l0), none, some (.int l2), some (.int l3), some (.int l4), some (.int l5), none] [] M 0 0 := by
  intro n
  induction n with
  | zero => intro M l0 l2 l3 l4 l5 h; cases h
  | succ n ih =>
    intro M l0 l2 l3 l4 l5 h
    replace h := (gX12_steps_57_s K38 K47 n M l0 l2 l3 l4 l5).symm.trans h
    refine v_iload hz rfl dX12_steps_57 ?_
    refine v_iconst hz (v := (4 : Int32)) (by decide) dX12_steps_59 ?_
    refine v_icmp_ge (tgt := 126) hz dX12_steps_60 (by decide) (fun hc => ?_) (fun hc => ?_)
    · replace h := (if_pos hc).symm.trans h
      exact v_weak (lvle_s (lvle_n (lvle_s (lvle_s (lvle_s (lvle_n (lvle_n lvle_0))))))) (wX12_steps_126 hz  (fun h => hK38 h) (fun h => hK47 h) h)
    · replace h := (if_neg hc).symm.trans h
      refine v_aload_n hz rfl rfl dX12_steps_63 ?_
      obtain ⟨ck5, h⟩ := ck_inv h
      obtain ⟨ka5, kb5⟩ := isK_of ck5
      obtain ⟨b6, r6, h⟩ := rb_inv h
      refine v_getR hz fl_X12_88 rfl dX12_steps_64 ka5 kb5 r6 ?_
      refine v_iload hz rfl dX12_steps_67 ?_
      obtain ⟨ck7, h⟩ := ck_inv h
      obtain ⟨ka7, kb7⟩ := isK_of ck7
      obtain ⟨g8, h⟩ := ck_inv h
      refine v_iaload hz dX12_steps_69 ka7 kb7 g8 ?_
      refine v_iload_n hz rfl rfl dX12_steps_70 ?_
      refine v_icmp_ne (tgt := 126) hz dX12_steps_71 (by decide) (fun hc => ?_) (fun hc => ?_)
      · replace h := (if_neg hc).symm.trans h
        exact v_weak (lvle_s (lvle_n (lvle_s (lvle_s (lvle_s (lvle_n (lvle_n lvle_0))))))) (wX12_steps_126 hz  (fun h => hK38 h) (fun h => hK47 h) h)
      · replace h := (if_pos hc).symm.trans h
        refine v_iload hz rfl dX12_steps_74 ?_
        refine v_iload hz rfl dX12_steps_76 ?_
        obtain ⟨x9, M9, e9, h⟩ := bd_inv h
        refine v_callS hz (As := [.int l4, .int l5]) sl_X12_224 (tX12_next (r + 1) e9) rfl rfl rfl (Nat.le_of_ble_eq_true rfl) ⟨by decide, by decide⟩ dX12_steps_78 ?_
        show V z 81 [some (.ref l0), none, some (.int l2), some (.int l3), some (.int l4), some (.int l5), none] [.int x9] M9 0 0
        refine v_istore hz (lw := [some (.ref l0), none, some (.int l2), some (.int l3), some (.int l4), some (.int l5), some (.int x9)]) (Nat.le_of_ble_eq_true rfl) rfl rfl dX12_steps_81 ?_
        refine v_iload hz rfl dX12_steps_83 ?_
        refine v_iconst hz (v := (-1 : Int32)) (by decide) dX12_steps_85 ?_
        refine v_icmp_eq (tgt := 120) hz dX12_steps_86 (by decide) (fun hc => ?_) (fun hc => ?_)
        · replace h := (if_pos hc).symm.trans h
          exact v_weak (lvle_s (lvle_n (lvle_s (lvle_s (lvle_s (lvle_s (lvle_n lvle_0))))))) (wX12_steps_120 hz  (fun h => hK38 h) (fun h => hK47 h) (fun h => ih h) h)
        · replace h := (if_neg hc).symm.trans h
          refine v_aload_n hz rfl rfl dX12_steps_89 ?_
          obtain ⟨ck10, h⟩ := ck_inv h
          obtain ⟨ka10, kb10⟩ := isK_of ck10
          obtain ⟨b11, r11, h⟩ := rb_inv h
          refine v_getR hz fl_X12_88 rfl dX12_steps_90 ka10 kb10 r11 ?_
          refine v_iload hz rfl dX12_steps_93 ?_
          obtain ⟨ck12, h⟩ := ck_inv h
          obtain ⟨ka12, kb12⟩ := isK_of ck12
          obtain ⟨g13, h⟩ := ck_inv h
          refine v_iaload hz dX12_steps_95 ka12 kb12 g13 ?_
          refine v_bipush hz (v := (-5 : Int32)) (by decide) dX12_steps_96 ?_
          refine v_icmp_ne (tgt := 120) hz dX12_steps_98 (by decide) (fun hc => ?_) (fun hc => ?_)
          · replace h := (if_neg hc).symm.trans h
            exact v_weak (lvle_s (lvle_n (lvle_s (lvle_s (lvle_s (lvle_s (lvle_n lvle_0))))))) (wX12_steps_120 hz  (fun h => hK38 h) (fun h => hK47 h) (fun h => ih h) h)
          · replace h := (if_pos hc).symm.trans h
            refine v_aload_n hz rfl rfl dX12_steps_101 ?_
            refine v_iload hz rfl dX12_steps_102 ?_
            obtain ⟨x14, M14, e14, h⟩ := bd_inv h
            refine v_callV hz (As := [.int x9]) vl_X12_227 (tX12_isBald (r + 0) e14) rfl (by decide) ka10 kb10 rfl rfl rfl (Nat.le_of_ble_eq_true rfl) ⟨by decide, by decide⟩ dX12_steps_104 ?_
            show V z 107 [some (.ref l0), none, some (.int l2), some (.int l3), some (.int l4), some (.int l5), some (.int x9)] [.int x14] M14 0 0
            refine v_if_ne (tgt := 120) hz dX12_steps_107 (by decide) (fun hc => ?_) (fun hc => ?_)
            · replace h := (if_neg hc).symm.trans h
              exact v_weak (lvle_s (lvle_n (lvle_s (lvle_s (lvle_s (lvle_s (lvle_n lvle_0))))))) (wX12_steps_120 hz  (fun h => hK38 h) (fun h => hK47 h) (fun h => ih h) h)
            · replace h := (if_pos hc).symm.trans h
              refine v_aload_n hz rfl rfl dX12_steps_110 ?_
              obtain ⟨ck15, h⟩ := ck_inv h
              obtain ⟨ka15, kb15⟩ := isK_of ck15
              obtain ⟨b16, r16, h⟩ := rb_inv h
              refine v_getR hz fl_X12_88 rfl dX12_steps_111 ka15 kb15 r16 ?_
              refine v_iload hz rfl dX12_steps_114 ?_
              refine v_iload_n hz rfl rfl dX12_steps_116 ?_
              refine v_iconst hz (v := (1 : Int32)) (by decide) dX12_steps_117 ?_
              refine v_iadd hz dX12_steps_118 ?_
              obtain ⟨ck17, h⟩ := ck_inv h
              obtain ⟨ka17, kb17⟩ := isK_of ck17
              obtain ⟨g18, h⟩ := ck_inv h
              refine v_iastore hz dX12_steps_119 ka17 kb17 g18 ?_
              exact v_weak (lvle_s (lvle_n (lvle_s (lvle_s (lvle_s (lvle_s (lvle_n lvle_0))))))) (wX12_steps_120 hz  (fun h => hK38 h) (fun h => hK47 h) (fun h => ih h) h)
set_option maxRecDepth 100000 in
set_option maxHeartbeats 4000000 in
theorem gX12_steps_47_s (K38 : Mem → Nat → Int32 → Int32 → Option (Int32 × Mem)) (n : Nat) (M : Mem) (l0 : Nat) (l2 : Int32) (l3 : Int32) (l4 : Int32) : gX12_steps_47 K38 (n + 1) M l0 l2 l3 l4 = (if (25 : Int32) ≤ l4 then (K38 M l0 l2 (l3 + (1 : Int32))) else (gX12_steps_57 K38 (gX12_steps_47 K38 n) FU M l0 l2 l3 l4 (0 : Int32))) := rfl
set_option maxRecDepth 100000 in
set_option maxHeartbeats 4000000 in
theorem wX12_steps_47 {z : Zx} {fx : Fx} {al : Bool} {r : Nat} {N : Mem} {xr : Int32} (hz : Zok z fx al yX12_steps.cls yX12_steps.name cX12_steps (some .int) 7 (r + 2) 0 0 (some (.int xr)) N)  {K38 : Mem → Nat → Int32 → Int32 → Option (Int32 × Mem)} (hK38 : ∀ {M : Mem} {l0 : Nat} {l2 : Int32} {l3 : Int32}, K38 M l0 l2 l3 = some (xr, N) → V z 38 [some (.ref l0), none, some (.int l2), some (.int l3), none, none, none] [] M 0 0) : ∀ {n : Nat} {M : Mem} {l0 : Nat} {l2 : Int32} {l3 : Int32} {l4 : Int32}, gX12_steps_47 K38 n M l0 l2 l3 l4 = some (xr, N) → V z 47 [some (.ref l0), none, some (.int l2), some (.int l3), some (.int l4), none, none] [] M 0 0 := by
  intro n
  induction n with
  | zero => intro M l0 l2 l3 l4 h; cases h
  | succ n ih =>
    intro M l0 l2 l3 l4 h
    replace h := (gX12_steps_47_s K38 n M l0 l2 l3 l4).symm.trans h
    refine v_iload hz rfl dX12_steps_47 ?_
    refine v_bipush hz (v := (25 : Int32)) (by decide) dX12_steps_49 ?_
    refine v_icmp_ge (tgt := 132) hz dX12_steps_51 (by decide) (fun hc => ?_) (fun hc => ?_)
    · replace h := (if_pos hc).symm.trans h
      refine v_iinc hz (v := (l3 + (1 : Int32))) (lw := [some (.ref l0), none, some (.int l2), some (.int (l3 + (1 : Int32))), some (.int l4), none, none]) rfl (congrArg (fun q => l3 + q) (show Int32.ofInt (1) = (1 : Int32) by decide)) rfl rfl dX12_steps_132 ?_
      refine v_goto (tgt := 38) hz dX12_steps_135 (by decide) ?_
      exact v_weak (lvle_s (lvle_n (lvle_s (lvle_s (lvle_n (lvle_n (lvle_n lvle_0))))))) (hK38 h)
    · replace h := (if_neg hc).symm.trans h
      refine v_iconst hz (v := (0 : Int32)) (by decide) dX12_steps_54 ?_
      refine v_istore hz (lw := [some (.ref l0), none, some (.int l2), some (.int l3), some (.int l4), some (.int (0 : Int32)), none]) (Nat.le_of_ble_eq_true rfl) rfl rfl dX12_steps_55 ?_
      exact v_weak (lvle_s (lvle_n (lvle_s (lvle_s (lvle_s (lvle_s (lvle_n lvle_0))))))) (wX12_steps_57 hz  (fun h => hK38 h) (fun h => ih h) h)
set_option maxRecDepth 100000 in
set_option maxHeartbeats 4000000 in
theorem gX12_steps_38_s  (n : Nat) (M : Mem) (l0 : Nat) (l2 : Int32) (l3 : Int32) : gX12_steps_38  (n + 1) M l0 l2 l3 = (if (25 : Int32) ≤ l3 then (ck (isK M l0 12) <| rb (mR M l0 40) fun b2 => ck (isK M b2 14) <| ck (inb l2 (mG M b2)) <| some ((mI M b2 l2.toNatClampNeg), M)) else (gX12_steps_47 (gX12_steps_38 n) FU M l0 l2 l3 (0 : Int32))) := rfl
set_option maxRecDepth 100000 in
set_option maxHeartbeats 4000000 in
theorem wX12_steps_38 {z : Zx} {fx : Fx} {al : Bool} {r : Nat} {N : Mem} {xr : Int32} (hz : Zok z fx al yX12_steps.cls yX12_steps.name cX12_steps (some .int) 7 (r + 2) 0 0 (some (.int xr)) N)    : ∀ {n : Nat} {M : Mem} {l0 : Nat} {l2 : Int32} {l3 : Int32}, gX12_steps_38  n M l0 l2 l3 = some (xr, N) → V z 38 [some (.ref l0), none, some (.int l2), some (.int l3), none, none, none] [] M 0 0 := by
  intro n
  induction n with
  | zero => intro M l0 l2 l3 h; cases h
  | succ n ih =>
    intro M l0 l2 l3 h
    replace h := (gX12_steps_38_s  n M l0 l2 l3).symm.trans h
    refine v_iload_n hz rfl rfl dX12_steps_38 ?_
    refine v_bipush hz (v := (25 : Int32)) (by decide) dX12_steps_39 ?_
    refine v_icmp_ge (tgt := 138) hz dX12_steps_41 (by decide) (fun hc => ?_) (fun hc => ?_)
    · replace h := (if_pos hc).symm.trans h
      refine v_aload_n hz rfl rfl dX12_steps_138 ?_
      obtain ⟨ck1, h⟩ := ck_inv h
      obtain ⟨ka1, kb1⟩ := isK_of ck1
      obtain ⟨b2, r2, h⟩ := rb_inv h
      refine v_getR hz fl_X12_88 rfl dX12_steps_139 ka1 kb1 r2 ?_
      refine v_iload_n hz rfl rfl dX12_steps_142 ?_
      obtain ⟨ck3, h⟩ := ck_inv h
      obtain ⟨ka3, kb3⟩ := isK_of ck3
      obtain ⟨g4, h⟩ := ck_inv h
      refine v_iaload hz dX12_steps_143 ka3 kb3 g4 ?_
      obtain ⟨rfl, rfl⟩ := sp_inv h
      exact v_iret hz dX12_steps_144 (by decide) (by decide)
    · replace h := (if_neg hc).symm.trans h
      refine v_iconst hz (v := (0 : Int32)) (by decide) dX12_steps_44 ?_
      refine v_istore hz (lw := [some (.ref l0), none, some (.int l2), some (.int l3), some (.int (0 : Int32)), none, none]) (Nat.le_of_ble_eq_true rfl) rfl rfl dX12_steps_45 ?_
      exact v_weak (lvle_s (lvle_n (lvle_s (lvle_s (lvle_s (lvle_n (lvle_n lvle_0))))))) (wX12_steps_47 hz  (fun h => ih h) h)
set_option maxRecDepth 100000 in
set_option maxHeartbeats 4000000 in
theorem wX12_steps_29 {z : Zx} {fx : Fx} {al : Bool} {r : Nat} {N : Mem} {xr : Int32} (hz : Zok z fx al yX12_steps.cls yX12_steps.name cX12_steps (some .int) 7 (r + 2) 0 0 (some (.int xr)) N)  {K2 : Mem → Nat → Int32 → Int32 → Int32 → Option (Int32 × Mem)} (hK2 : ∀ {M : Mem} {l0 : Nat} {l1 : Int32} {l2 : Int32} {l3 : Int32}, K2 M l0 l1 l2 l3 = some (xr, N) → V z 2 [some (.ref l0), some (.int l1), some (.int l2), some (.int l3), none, none, none] [] M 0 0) {M : Mem} {l0 : Nat} {l1 : Int32} {l2 : Int32} {l3 : Int32} {s0 : Int32} {s1 : Int32} {s2 : Nat} (h : gX12_steps_29 K2 M l0 l1 l2 l3 s0 s1 s2 = some (xr, N)) : V z 29 [some (.ref l0), some (.int l1), some (.int l2), some (.int l3), none, none, none] [.int s0, .int s1, .ref s2] M 0 0 := by
  unfold gX12_steps_29 at h
  obtain ⟨ck24, h⟩ := ck_inv h
  obtain ⟨ka24, kb24⟩ := isK_of ck24
  obtain ⟨g25, h⟩ := ck_inv h
  refine v_iastore hz dX12_steps_29 ka24 kb24 g25 ?_
  refine v_iinc hz (v := (l3 + (1 : Int32))) (lw := [some (.ref l0), some (.int l1), some (.int l2), some (.int (l3 + (1 : Int32))), none, none, none]) rfl (congrArg (fun q => l3 + q) (show Int32.ofInt (1) = (1 : Int32) by decide)) rfl rfl dX12_steps_30 ?_
  refine v_goto (tgt := 2) hz dX12_steps_33 (by decide) ?_
  exact v_weak (lvle_s (lvle_s (lvle_s (lvle_s (lvle_n (lvle_n (lvle_n lvle_0))))))) (hK2 h)
set_option maxRecDepth 100000 in
set_option maxHeartbeats 4000000 in
theorem gX12_steps_2_s  (n : Nat) (M : Mem) (l0 : Nat) (l1 : Int32) (l2 : Int32) (l3 : Int32) : gX12_steps_2  (n + 1) M l0 l1 l2 l3 = (if (25 : Int32) ≤ l3 then (gX12_steps_38 FU M l0 l2 (0 : Int32)) else (ck (isK M l0 12) <| rb (mR M l0 40) fun b20 => rb (mR M l0 4) fun b21 => ck (isK M b21 14) <| ck (inb l1 (mG M b21)) <| if l3 = (mI M b21 l1.toNatClampNeg) then (gX12_steps_29 (gX12_steps_2 n) M l0 l1 l2 l3 (0 : Int32) l3 b20) else (gX12_steps_29 (gX12_steps_2 n) M l0 l1 l2 l3 (-5 : Int32) l3 b20))) := rfl
set_option maxRecDepth 100000 in
set_option maxHeartbeats 4000000 in
theorem wX12_steps_2 {z : Zx} {fx : Fx} {al : Bool} {r : Nat} {N : Mem} {xr : Int32} (hz : Zok z fx al yX12_steps.cls yX12_steps.name cX12_steps (some .int) 7 (r + 2) 0 0 (some (.int xr)) N)    : ∀ {n : Nat} {M : Mem} {l0 : Nat} {l1 : Int32} {l2 : Int32} {l3 : Int32}, gX12_steps_2  n M l0 l1 l2 l3 = some (xr, N) → V z 2 [some (.ref l0), some (.int l1), some (.int l2), some (.int l3), none, none, none] [] M 0 0 := by
  intro n
  induction n with
  | zero => intro M l0 l1 l2 l3 h; cases h
  | succ n ih =>
    intro M l0 l1 l2 l3 h
    replace h := (gX12_steps_2_s  n M l0 l1 l2 l3).symm.trans h
    refine v_iload_n hz rfl rfl dX12_steps_2 ?_
    refine v_bipush hz (v := (25 : Int32)) (by decide) dX12_steps_3 ?_
    refine v_icmp_ge (tgt := 36) hz dX12_steps_5 (by decide) (fun hc => ?_) (fun hc => ?_)
    · replace h := (if_pos hc).symm.trans h
      refine v_iconst hz (v := (0 : Int32)) (by decide) dX12_steps_36 ?_
      refine v_istore_n hz (lw := [some (.ref l0), some (.int l1), some (.int l2), some (.int (0 : Int32)), none, none, none]) rfl (Nat.le_of_ble_eq_true rfl) rfl rfl dX12_steps_37 ?_
      exact v_weak (lvle_s (lvle_n (lvle_s (lvle_s (lvle_n (lvle_n (lvle_n lvle_0))))))) (wX12_steps_38 hz   h)
    · replace h := (if_neg hc).symm.trans h
      refine v_aload_n hz rfl rfl dX12_steps_8 ?_
      obtain ⟨ck19, h⟩ := ck_inv h
      obtain ⟨ka19, kb19⟩ := isK_of ck19
      obtain ⟨b20, r20, h⟩ := rb_inv h
      refine v_getR hz fl_X12_88 rfl dX12_steps_9 ka19 kb19 r20 ?_
      refine v_iload_n hz rfl rfl dX12_steps_12 ?_
      refine v_iload_n hz rfl rfl dX12_steps_13 ?_
      refine v_aload_n hz rfl rfl dX12_steps_14 ?_
      obtain ⟨b21, r21, h⟩ := rb_inv h
      refine v_getR hz fl_X12_21 rfl dX12_steps_15 ka19 kb19 r21 ?_
      refine v_iload_n hz rfl rfl dX12_steps_18 ?_
      obtain ⟨ck22, h⟩ := ck_inv h
      obtain ⟨ka22, kb22⟩ := isK_of ck22
      obtain ⟨g23, h⟩ := ck_inv h
      refine v_iaload hz dX12_steps_19 ka22 kb22 g23 ?_
      refine v_icmp_ne (tgt := 27) hz dX12_steps_20 (by decide) (fun hc => ?_) (fun hc => ?_)
      · replace h := (if_neg hc).symm.trans h
        refine v_bipush hz (v := (-5 : Int32)) (by decide) dX12_steps_27 ?_
        exact v_weak (lvle_s (lvle_s (lvle_s (lvle_s (lvle_n (lvle_n (lvle_n lvle_0))))))) (wX12_steps_29 hz  (fun h => ih h) h)
      · replace h := (if_pos hc).symm.trans h
        refine v_iconst hz (v := (0 : Int32)) (by decide) dX12_steps_23 ?_
        refine v_goto (tgt := 29) hz dX12_steps_24 (by decide) ?_
        exact v_weak (lvle_s (lvle_s (lvle_s (lvle_s (lvle_n (lvle_n (lvle_n lvle_0))))))) (wX12_steps_29 hz  (fun h => ih h) h)
set_option maxRecDepth 100000 in
set_option maxHeartbeats 4000000 in
theorem tX12_steps (r : Nat) {fx : Fx} {al : Bool} {M N : Mem} {a0 : Nat} {a1 : Int32} {a2 : Int32} {xr : Int32}  (h : fX12_steps M a0 a1 a2 = some (xr, N)) : Ct fx yX12_steps cX12_steps 7 (some .int) (r + 2) 0 0 al [.ref a0, .int a1, .int a2] M (some (.int xr)) N := by
  refine ct_of (lv := [some (.ref a0), some (.int a1), some (.int a2), none, none, none, none]) (by decide) (Nat.le_of_ble_eq_true rfl) rfl rfl (fun z hz => ?_)
  unfold fX12_steps at h
  refine v_iconst hz (v := (0 : Int32)) (by decide) dX12_steps_0 ?_
  refine v_istore_n hz (lw := [some (.ref a0), some (.int a1), some (.int a2), some (.int (0 : Int32)), none, none, none]) rfl (Nat.le_of_ble_eq_true rfl) rfl rfl dX12_steps_1 ?_
  exact v_weak (lvle_s (lvle_s (lvle_s (lvle_s (lvle_n (lvle_n (lvle_n lvle_0))))))) (wX12_steps_2 hz   h)
noncomputable def gX12_block_155 (K64 : Mem → Nat → Int32 → Int32 → Int32 → Int32 → Int32 → Option (Int32 × Mem)) (M : Mem) (l0 : Nat) (l1 : Int32) (l2 : Int32) (l4 : Int32) (l5 : Int32) (l6 : Int32) : Option (Int32 × Mem) :=
  K64 M l0 l1 l2 l4 l5 (l6 + (1 : Int32))
noncomputable def gX12_block_137 (K64 : Mem → Nat → Int32 → Int32 → Int32 → Int32 → Int32 → Option (Int32 × Mem)) (M : Mem) (l0 : Nat) (l1 : Int32) (l2 : Int32) (l4 : Int32) (l5 : Int32) (l6 : Int32) (l8 : Int32) : Option (Int32 × Mem) :=
  if l4 < l8 then (gX12_block_155 K64 M l0 l1 l2 l8 l6 l6) else (gX12_block_155 K64 M l0 l1 l2 l4 l5 l6)
noncomputable def gX12_block_64  : Nat → Mem → Nat → Int32 → Int32 → Int32 → Int32 → Int32 → Option (Int32 × Mem)
  | 0, _, _, _, _, _, _, _ => none
  | n + 1, M, l0, l1, l2, l4, l5, l6 => if (25 : Int32) ≤ l6 then (ck (isK M l0 12) <| rb (mR M l0 39) fun b7 => bd (fX12_again M l0 b7) fun x8 M8 => some (l5, M8)) else (if l6 = l2 then (gX12_block_155 (gX12_block_64 n) M l0 l1 l2 l4 l5 l6) else (ck (isK M l0 12) <| rb (mR M l0 4) fun b10 => ck (isK M b10 14) <| ck (inb l1 (mG M b10)) <| if l6 = (mI M b10 l1.toNatClampNeg) then (gX12_block_155 (gX12_block_64 n) M l0 l1 l2 l4 l5 l6) else (rb (mR M l0 0) fun b13 => ck (isK M b13 14) <| ck (inb l6 (mG M b13)) <| ck (inb l6 (mG M b13)) <| bd (fX12_gets (stI M b13 l6.toNatClampNeg (99 : Int32)) l0 l1 l2) fun x17 M17 => ck (isK M17 l0 12) <| rb (mR M17 l0 0) fun b19 => ck (isK M17 b19 14) <| ck (inb l6 (mG M17 b19)) <| if x17 = (-5 : Int32) then (gX12_block_137 (gX12_block_64 n) (stI M17 b19 l6.toNatClampNeg (mI M b13 l6.toNatClampNeg)) l0 l1 l2 l4 l5 l6 (99 : Int32)) else (gX12_block_137 (gX12_block_64 n) (stI M17 b19 l6.toNatClampNeg (mI M b13 l6.toNatClampNeg)) l0 l1 l2 l4 l5 l6 x17))))
noncomputable def gX12_block_55  (M : Mem) (l0 : Nat) (l1 : Int32) (l2 : Int32) (s0 : Int32) : Option (Int32 × Mem) :=
  gX12_block_64 FU M l0 l1 l2 s0 (-5 : Int32) (0 : Int32)
noncomputable def gX12_block_30 (K10 : Mem → Nat → Int32 → Int32 → Int32 → Option (Int32 × Mem)) (M : Mem) (l0 : Nat) (l1 : Int32) (l2 : Int32) (l3 : Int32) : Option (Int32 × Mem) :=
  K10 M l0 l1 l2 (l3 + (1 : Int32))
noncomputable def gX12_block_10  : Nat → Mem → Nat → Int32 → Int32 → Int32 → Option (Int32 × Mem)
  | 0, _, _, _, _, _ => none
  | n + 1, M, l0, l1, l2, l3 => ck (isK M l0 12) <| if (mI M l0 1) ≤ l3 then (bd (fX12_gets M l0 l1 l2) fun x5 M5 => if x5 = (-5 : Int32) then (gX12_block_55 M5 l0 l1 l2 (99 : Int32)) else (gX12_block_55 M5 l0 l1 l2 x5)) else (if l3 = l1 then (gX12_block_30 (gX12_block_10 n) M l0 l1 l2 l3) else (rb (mR M l0 5) fun b22 => ck (isK M b22 14) <| ck (inb l3 (mG M b22)) <| gX12_block_30 (gX12_block_10 n) (stI M b22 l3.toNatClampNeg (1 : Int32)) l0 l1 l2 l3))
noncomputable def fX12_block (M : Mem) (a0 : Nat) (a1 : Int32) (a2 : Int32) : Option (Int32 × Mem) :=
  ck (isK M a0 12) <| rb (mR M a0 39) fun b2 => bd (fX12_keep M a0 b2) fun x3 M3 => gX12_block_10 FU M3 a0 a1 a2 (0 : Int32)
set_option maxRecDepth 100000 in
set_option maxHeartbeats 4000000 in
theorem wX12_block_155 {z : Zx} {fx : Fx} {al : Bool} {r : Nat} {N : Mem} {xr : Int32} (hz : Zok z fx al yX12_block.cls yX12_block.name cX12_block (some .int) 9 (r + 7) 0 0 (some (.int xr)) N)  {K64 : Mem → Nat → Int32 → Int32 → Int32 → Int32 → Int32 → Option (Int32 × Mem)} (hK64 : ∀ {M : Mem} {l0 : Nat} {l1 : Int32} {l2 : Int32} {l4 : Int32} {l5 : Int32} {l6 : Int32}, K64 M l0 l1 l2 l4 l5 l6 = some (xr, N) → V z 64 [some (.ref l0), some (.int l1), some (.int l2), none, some (.int l4), some (.int l5), some (.int l6), none, none] [] M 0 0) {M : Mem} {l0 : Nat} {l1 : Int32} {l2 : Int32} {l4 : Int32} {l5 : Int32} {l6 : Int32} (h : gX12_block_155 K64 M l0 l1 l2 l4 l5 l6 = some (xr, N)) : V z 155 [some (.ref l0), some (.int l1), some (.int l2), none, some (.int l4), some (.int l5), some (.int l6), none, none] [] M 0 0 := by
  unfold gX12_block_155 at h
  refine v_iinc hz (v := (l6 + (1 : Int32))) (lw := [some (.ref l0), some (.int l1), some (.int l2), none, some (.int l4), some (.int l5), some (.int (l6 + (1 : Int32))), none, none]) rfl (congrArg (fun q => l6 + q) (show Int32.ofInt (1) = (1 : Int32) by decide)) rfl rfl dX12_block_155 ?_
  refine v_goto (tgt := 64) hz dX12_block_158 (by decide) ?_
  exact v_weak (lvle_s (lvle_s (lvle_s (lvle_n (lvle_s (lvle_s (lvle_s (lvle_n (lvle_n lvle_0))))))))) (hK64 h)
set_option maxRecDepth 100000 in
set_option maxHeartbeats 4000000 in
theorem wX12_block_137 {z : Zx} {fx : Fx} {al : Bool} {r : Nat} {N : Mem} {xr : Int32} (hz : Zok z fx al yX12_block.cls yX12_block.name cX12_block (some .int) 9 (r + 7) 0 0 (some (.int xr)) N)  {K64 : Mem → Nat → Int32 → Int32 → Int32 → Int32 → Int32 → Option (Int32 × Mem)} (hK64 : ∀ {M : Mem} {l0 : Nat} {l1 : Int32} {l2 : Int32} {l4 : Int32} {l5 : Int32} {l6 : Int32}, K64 M l0 l1 l2 l4 l5 l6 = some (xr, N) → V z 64 [some (.ref l0), some (.int l1), some (.int l2), none, some (.int l4), some (.int l5), some (.int l6), none, none] [] M 0 0) {M : Mem} {l0 : Nat} {l1 : Int32} {l2 : Int32} {l4 : Int32} {l5 : Int32} {l6 : Int32} {l8 : Int32} (h : gX12_block_137 K64 M l0 l1 l2 l4 l5 l6 l8 = some (xr, N)) : V z 137 [some (.ref l0), some (.int l1), some (.int l2), none, some (.int l4), some (.int l5), some (.int l6), none, some (.int l8)] [] M 0 0 := by
  unfold gX12_block_137 at h
  refine v_iload hz rfl dX12_block_137 ?_
  refine v_iload hz rfl dX12_block_139 ?_
  refine v_icmp_gt (tgt := 147) hz dX12_block_141 (by decide) (fun hc => ?_) (fun hc => ?_)
  · replace h := (if_pos hc).symm.trans h
    refine v_iload hz rfl dX12_block_147 ?_
    refine v_istore hz (lw := [some (.ref l0), some (.int l1), some (.int l2), none, some (.int l8), some (.int l5), some (.int l6), none, some (.int l8)]) (Nat.le_of_ble_eq_true rfl) rfl rfl dX12_block_149 ?_
    refine v_iload hz rfl dX12_block_151 ?_
    refine v_istore hz (lw := [some (.ref l0), some (.int l1), some (.int l2), none, some (.int l8), some (.int l6), some (.int l6), none, some (.int l8)]) (Nat.le_of_ble_eq_true rfl) rfl rfl dX12_block_153 ?_
    exact v_weak (lvle_s (lvle_s (lvle_s (lvle_n (lvle_s (lvle_s (lvle_s (lvle_n (lvle_n lvle_0))))))))) (wX12_block_155 hz  (fun h => hK64 h) h)
  · replace h := (if_neg hc).symm.trans h
    refine v_goto (tgt := 155) hz dX12_block_144 (by decide) ?_
    exact v_weak (lvle_s (lvle_s (lvle_s (lvle_n (lvle_s (lvle_s (lvle_s (lvle_n (lvle_n lvle_0))))))))) (wX12_block_155 hz  (fun h => hK64 h) h)
set_option maxRecDepth 100000 in
set_option maxHeartbeats 4000000 in
theorem gX12_block_64_s  (n : Nat) (M : Mem) (l0 : Nat) (l1 : Int32) (l2 : Int32) (l4 : Int32) (l5 : Int32) (l6 : Int32) : gX12_block_64  (n + 1) M l0 l1 l2 l4 l5 l6 = (if (25 : Int32) ≤ l6 then (ck (isK M l0 12) <| rb (mR M l0 39) fun b7 => bd (fX12_again M l0 b7) fun x8 M8 => some (l5, M8)) else (if l6 = l2 then (gX12_block_155 (gX12_block_64 n) M l0 l1 l2 l4 l5 l6) else (ck (isK M l0 12) <| rb (mR M l0 4) fun b10 => ck (isK M b10 14) <| ck (inb l1 (mG M b10)) <| if l6 = (mI M b10 l1.toNatClampNeg) then (gX12_block_155 (gX12_block_64 n) M l0 l1 l2 l4 l5 l6) else (rb (mR M l0 0) fun b13 => ck (isK M b13 14) <| ck (inb l6 (mG M b13)) <| ck (inb l6 (mG M b13)) <| bd (fX12_gets (stI M b13 l6.toNatClampNeg (99 : Int32)) l0 l1 l2) fun x17 M17 => ck (isK M17 l0 12) <| rb (mR M17 l0 0) fun b19 => ck (isK M17 b19 14) <| ck (inb l6 (mG M17 b19)) <| if x17 = (-5 : Int32) then (gX12_block_137 (gX12_block_64 n) (stI M17 b19 l6.toNatClampNeg (mI M b13 l6.toNatClampNeg)) l0 l1 l2 l4 l5 l6 (99 : Int32)) else (gX12_block_137 (gX12_block_64 n) (stI M17 b19 l6.toNatClampNeg (mI M b13 l6.toNatClampNeg)) l0 l1 l2 l4 l5 l6 x17))))) := rfl
set_option maxRecDepth 100000 in
set_option maxHeartbeats 4000000 in
theorem wX12_block_64 {z : Zx} {fx : Fx} {al : Bool} {r : Nat} {N : Mem} {xr : Int32} (hz : Zok z fx al yX12_block.cls yX12_block.name cX12_block (some .int) 9 (r + 7) 0 0 (some (.int xr)) N)    : ∀ {n : Nat} {M : Mem} {l0 : Nat} {l1 : Int32} {l2 : Int32} {l4 : Int32} {l5 : Int32} {l6 : Int32}, gX12_block_64  n M l0 l1 l2 l4 l5 l6 = some (xr, N) → V z 64 [some (.ref l0), some (.int l1), some (.int l2), none, some (.int l4), some (.int l5), some (.int l6), none, none] [] M 0 0 := by
  intro n
  induction n with
  | zero => intro M l0 l1 l2 l4 l5 l6 h; cases h
  | succ n ih =>
    intro M l0 l1 l2 l4 l5 l6 h
    replace h := (gX12_block_64_s  n M l0 l1 l2 l4 l5 l6).symm.trans h
    refine v_iload hz rfl dX12_block_64 ?_
    refine v_bipush hz (v := (25 : Int32)) (by decide) dX12_block_66 ?_
    refine v_icmp_ge (tgt := 161) hz dX12_block_68 (by decide) (fun hc => ?_) (fun hc => ?_)
    · replace h := (if_pos hc).symm.trans h
      refine v_aload_n hz rfl rfl dX12_block_161 ?_
      refine v_aload_n hz rfl rfl dX12_block_162 ?_
      obtain ⟨ck6, h⟩ := ck_inv h
      obtain ⟨ka6, kb6⟩ := isK_of ck6
      obtain ⟨b7, r7, h⟩ := rb_inv h
      refine v_getR hz fl_X12_85 rfl dX12_block_163 ka6 kb6 r7 ?_
      obtain ⟨x8, M8, e8, h⟩ := bd_inv h
      refine v_callV hz (As := [.ref b7]) vl_X12_257 (tX12_again (r + 6) e8) rfl (by decide) ka6 kb6 rfl rfl rfl (Nat.le_of_ble_eq_true rfl) ⟨by decide, by decide⟩ dX12_block_166 ?_
      show V z 169 [some (.ref l0), some (.int l1), some (.int l2), none, some (.int l4), some (.int l5), some (.int l6), none, none] [] M8 0 0
      refine v_iload hz rfl dX12_block_169 ?_
      obtain ⟨rfl, rfl⟩ := sp_inv h
      exact v_iret hz dX12_block_171 (by decide) (by decide)
    · replace h := (if_neg hc).symm.trans h
      refine v_iload hz rfl dX12_block_71 ?_
      refine v_iload_n hz rfl rfl dX12_block_73 ?_
      refine v_icmp_eq (tgt := 155) hz dX12_block_74 (by decide) (fun hc => ?_) (fun hc => ?_)
      · replace h := (if_pos hc).symm.trans h
        exact v_weak (lvle_s (lvle_s (lvle_s (lvle_n (lvle_s (lvle_s (lvle_s (lvle_n (lvle_n lvle_0))))))))) (wX12_block_155 hz  (fun h => ih h) h)
      · replace h := (if_neg hc).symm.trans h
        refine v_iload hz rfl dX12_block_77 ?_
        refine v_aload_n hz rfl rfl dX12_block_79 ?_
        obtain ⟨ck9, h⟩ := ck_inv h
        obtain ⟨ka9, kb9⟩ := isK_of ck9
        obtain ⟨b10, r10, h⟩ := rb_inv h
        refine v_getR hz fl_X12_21 rfl dX12_block_80 ka9 kb9 r10 ?_
        refine v_iload_n hz rfl rfl dX12_block_83 ?_
        obtain ⟨ck11, h⟩ := ck_inv h
        obtain ⟨ka11, kb11⟩ := isK_of ck11
        obtain ⟨g12, h⟩ := ck_inv h
        refine v_iaload hz dX12_block_84 ka11 kb11 g12 ?_
        refine v_icmp_ne (tgt := 91) hz dX12_block_85 (by decide) (fun hc => ?_) (fun hc => ?_)
        · replace h := (if_neg hc).symm.trans h
          refine v_aload_n hz rfl rfl dX12_block_91 ?_
          obtain ⟨b13, r13, h⟩ := rb_inv h
          refine v_getR hz fl_X12_9 rfl dX12_block_92 ka9 kb9 r13 ?_
          refine v_iload hz rfl dX12_block_95 ?_
          obtain ⟨ck14, h⟩ := ck_inv h
          obtain ⟨ka14, kb14⟩ := isK_of ck14
          obtain ⟨g15, h⟩ := ck_inv h
          refine v_iaload hz dX12_block_97 ka14 kb14 g15 ?_
          refine v_istore hz (lw := [some (.ref l0), some (.int l1), some (.int l2), none, some (.int l4), some (.int l5), some (.int l6), some (.int (mI M b13 l6.toNatClampNeg)), none]) (Nat.le_of_ble_eq_true rfl) rfl rfl dX12_block_98 ?_
          refine v_aload_n hz rfl rfl dX12_block_100 ?_
          refine v_getR hz fl_X12_9 rfl dX12_block_101 ka9 kb9 r13 ?_
          refine v_iload hz rfl dX12_block_104 ?_
          refine v_bipush hz (v := (99 : Int32)) (by decide) dX12_block_106 ?_
          obtain ⟨g16, h⟩ := ck_inv h
          refine v_iastore hz dX12_block_108 ka14 kb14 g16 ?_
          refine v_aload_n hz rfl rfl dX12_block_109 ?_
          refine v_iload_n hz rfl rfl dX12_block_110 ?_
          refine v_iload_n hz rfl rfl dX12_block_111 ?_
          obtain ⟨x17, M17, e17, h⟩ := bd_inv h
          refine v_callV hz (As := [.int l1, .int l2]) vl_X12_260 (tX12_gets (r + 0) e17) rfl (by decide) ka9 kb9 rfl rfl rfl (Nat.le_of_ble_eq_true rfl) ⟨by decide, by decide⟩ dX12_block_112 ?_
          show V z 115 [some (.ref l0), some (.int l1), some (.int l2), none, some (.int l4), some (.int l5), some (.int l6), some (.int (mI M b13 l6.toNatClampNeg)), none] [.int x17] M17 0 0
          refine v_istore hz (lw := [some (.ref l0), some (.int l1), some (.int l2), none, some (.int l4), some (.int l5), some (.int l6), some (.int (mI M b13 l6.toNatClampNeg)), some (.int x17)]) (Nat.le_of_ble_eq_true rfl) rfl rfl dX12_block_115 ?_
          refine v_aload_n hz rfl rfl dX12_block_117 ?_
          obtain ⟨ck18, h⟩ := ck_inv h
          obtain ⟨ka18, kb18⟩ := isK_of ck18
          obtain ⟨b19, r19, h⟩ := rb_inv h
          refine v_getR hz fl_X12_9 rfl dX12_block_118 ka18 kb18 r19 ?_
          refine v_iload hz rfl dX12_block_121 ?_
          refine v_iload hz rfl dX12_block_123 ?_
          obtain ⟨ck20, h⟩ := ck_inv h
          obtain ⟨ka20, kb20⟩ := isK_of ck20
          obtain ⟨g21, h⟩ := ck_inv h
          refine v_iastore hz dX12_block_125 ka20 kb20 g21 ?_
          refine v_iload hz rfl dX12_block_126 ?_
          refine v_bipush hz (v := (-5 : Int32)) (by decide) dX12_block_128 ?_
          refine v_icmp_ne (tgt := 137) hz dX12_block_130 (by decide) (fun hc => ?_) (fun hc => ?_)
          · replace h := (if_neg hc).symm.trans h
            exact v_weak (lvle_s (lvle_s (lvle_s (lvle_n (lvle_s (lvle_s (lvle_s (lvle_n (lvle_s lvle_0))))))))) (wX12_block_137 hz  (fun h => ih h) h)
          · replace h := (if_pos hc).symm.trans h
            refine v_bipush hz (v := (99 : Int32)) (by decide) dX12_block_133 ?_
            refine v_istore hz (lw := [some (.ref l0), some (.int l1), some (.int l2), none, some (.int l4), some (.int l5), some (.int l6), some (.int (mI M b13 l6.toNatClampNeg)), some (.int (99 : Int32))]) (Nat.le_of_ble_eq_true rfl) rfl rfl dX12_block_135 ?_
            exact v_weak (lvle_s (lvle_s (lvle_s (lvle_n (lvle_s (lvle_s (lvle_s (lvle_n (lvle_s lvle_0))))))))) (wX12_block_137 hz  (fun h => ih h) h)
        · replace h := (if_pos hc).symm.trans h
          refine v_goto (tgt := 155) hz dX12_block_88 (by decide) ?_
          exact v_weak (lvle_s (lvle_s (lvle_s (lvle_n (lvle_s (lvle_s (lvle_s (lvle_n (lvle_n lvle_0))))))))) (wX12_block_155 hz  (fun h => ih h) h)
set_option maxRecDepth 100000 in
set_option maxHeartbeats 4000000 in
theorem wX12_block_55 {z : Zx} {fx : Fx} {al : Bool} {r : Nat} {N : Mem} {xr : Int32} (hz : Zok z fx al yX12_block.cls yX12_block.name cX12_block (some .int) 9 (r + 7) 0 0 (some (.int xr)) N)    {M : Mem} {l0 : Nat} {l1 : Int32} {l2 : Int32} {s0 : Int32} (h : gX12_block_55  M l0 l1 l2 s0 = some (xr, N)) : V z 55 [some (.ref l0), some (.int l1), some (.int l2), none, none, none, none, none, none] [.int s0] M 0 0 := by
  unfold gX12_block_55 at h
  refine v_istore hz (lw := [some (.ref l0), some (.int l1), some (.int l2), none, some (.int s0), none, none, none, none]) (Nat.le_of_ble_eq_true rfl) rfl rfl dX12_block_55 ?_
  refine v_bipush hz (v := (-5 : Int32)) (by decide) dX12_block_57 ?_
  refine v_istore hz (lw := [some (.ref l0), some (.int l1), some (.int l2), none, some (.int s0), some (.int (-5 : Int32)), none, none, none]) (Nat.le_of_ble_eq_true rfl) rfl rfl dX12_block_59 ?_
  refine v_iconst hz (v := (0 : Int32)) (by decide) dX12_block_61 ?_
  refine v_istore hz (lw := [some (.ref l0), some (.int l1), some (.int l2), none, some (.int s0), some (.int (-5 : Int32)), some (.int (0 : Int32)), none, none]) (Nat.le_of_ble_eq_true rfl) rfl rfl dX12_block_62 ?_
  exact v_weak (lvle_s (lvle_s (lvle_s (lvle_n (lvle_s (lvle_s (lvle_s (lvle_n (lvle_n lvle_0))))))))) (wX12_block_64 hz   h)
set_option maxRecDepth 100000 in
set_option maxHeartbeats 4000000 in
theorem wX12_block_30 {z : Zx} {fx : Fx} {al : Bool} {r : Nat} {N : Mem} {xr : Int32} (hz : Zok z fx al yX12_block.cls yX12_block.name cX12_block (some .int) 9 (r + 7) 0 0 (some (.int xr)) N)  {K10 : Mem → Nat → Int32 → Int32 → Int32 → Option (Int32 × Mem)} (hK10 : ∀ {M : Mem} {l0 : Nat} {l1 : Int32} {l2 : Int32} {l3 : Int32}, K10 M l0 l1 l2 l3 = some (xr, N) → V z 10 [some (.ref l0), some (.int l1), some (.int l2), some (.int l3), none, none, none, none, none] [] M 0 0) {M : Mem} {l0 : Nat} {l1 : Int32} {l2 : Int32} {l3 : Int32} (h : gX12_block_30 K10 M l0 l1 l2 l3 = some (xr, N)) : V z 30 [some (.ref l0), some (.int l1), some (.int l2), some (.int l3), none, none, none, none, none] [] M 0 0 := by
  unfold gX12_block_30 at h
  refine v_iinc hz (v := (l3 + (1 : Int32))) (lw := [some (.ref l0), some (.int l1), some (.int l2), some (.int (l3 + (1 : Int32))), none, none, none, none, none]) rfl (congrArg (fun q => l3 + q) (show Int32.ofInt (1) = (1 : Int32) by decide)) rfl rfl dX12_block_30 ?_
  refine v_goto (tgt := 10) hz dX12_block_33 (by decide) ?_
  exact v_weak (lvle_s (lvle_s (lvle_s (lvle_s (lvle_n (lvle_n (lvle_n (lvle_n (lvle_n lvle_0))))))))) (hK10 h)
set_option maxRecDepth 100000 in
set_option maxHeartbeats 4000000 in
theorem gX12_block_10_s  (n : Nat) (M : Mem) (l0 : Nat) (l1 : Int32) (l2 : Int32) (l3 : Int32) : gX12_block_10  (n + 1) M l0 l1 l2 l3 = (ck (isK M l0 12) <| if (mI M l0 1) ≤ l3 then (bd (fX12_gets M l0 l1 l2) fun x5 M5 => if x5 = (-5 : Int32) then (gX12_block_55 M5 l0 l1 l2 (99 : Int32)) else (gX12_block_55 M5 l0 l1 l2 x5)) else (if l3 = l1 then (gX12_block_30 (gX12_block_10 n) M l0 l1 l2 l3) else (rb (mR M l0 5) fun b22 => ck (isK M b22 14) <| ck (inb l3 (mG M b22)) <| gX12_block_30 (gX12_block_10 n) (stI M b22 l3.toNatClampNeg (1 : Int32)) l0 l1 l2 l3))) := rfl
set_option maxRecDepth 100000 in
set_option maxHeartbeats 4000000 in
theorem wX12_block_10 {z : Zx} {fx : Fx} {al : Bool} {r : Nat} {N : Mem} {xr : Int32} (hz : Zok z fx al yX12_block.cls yX12_block.name cX12_block (some .int) 9 (r + 7) 0 0 (some (.int xr)) N)    : ∀ {n : Nat} {M : Mem} {l0 : Nat} {l1 : Int32} {l2 : Int32} {l3 : Int32}, gX12_block_10  n M l0 l1 l2 l3 = some (xr, N) → V z 10 [some (.ref l0), some (.int l1), some (.int l2), some (.int l3), none, none, none, none, none] [] M 0 0 := by
  intro n
  induction n with
  | zero => intro M l0 l1 l2 l3 h; cases h
  | succ n ih =>
    intro M l0 l1 l2 l3 h
    replace h := (gX12_block_10_s  n M l0 l1 l2 l3).symm.trans h
    refine v_iload_n hz rfl rfl dX12_block_10 ?_
    refine v_aload_n hz rfl rfl dX12_block_11 ?_
    obtain ⟨ck4, h⟩ := ck_inv h
    obtain ⟨ka4, kb4⟩ := isK_of ck4
    refine v_getI hz fl_X12_105 rfl dX12_block_12 ka4 kb4 ?_
    refine v_icmp_ge (tgt := 36) hz dX12_block_15 (by decide) (fun hc => ?_) (fun hc => ?_)
    · replace h := (if_pos hc).symm.trans h
      refine v_aload_n hz rfl rfl dX12_block_36 ?_
      refine v_iload_n hz rfl rfl dX12_block_37 ?_
      refine v_iload_n hz rfl rfl dX12_block_38 ?_
      obtain ⟨x5, M5, e5, h⟩ := bd_inv h
      refine v_callV hz (As := [.int l1, .int l2]) vl_X12_260 (tX12_gets (r + 0) e5) rfl (by decide) ka4 kb4 rfl rfl rfl (Nat.le_of_ble_eq_true rfl) ⟨by decide, by decide⟩ dX12_block_39 ?_
      show V z 42 [some (.ref l0), some (.int l1), some (.int l2), some (.int l3), none, none, none, none, none] [.int x5] M5 0 0
      refine v_istore_n hz (lw := [some (.ref l0), some (.int l1), some (.int l2), some (.int x5), none, none, none, none, none]) rfl (Nat.le_of_ble_eq_true rfl) rfl rfl dX12_block_42 ?_
      refine v_iload_n hz rfl rfl dX12_block_43 ?_
      refine v_bipush hz (v := (-5 : Int32)) (by decide) dX12_block_44 ?_
      refine v_icmp_ne (tgt := 54) hz dX12_block_46 (by decide) (fun hc => ?_) (fun hc => ?_)
      · replace h := (if_neg hc).symm.trans h
        refine v_iload_n hz rfl rfl dX12_block_54 ?_
        exact v_weak (lvle_s (lvle_s (lvle_s (lvle_n (lvle_n (lvle_n (lvle_n (lvle_n (lvle_n lvle_0))))))))) (wX12_block_55 hz   h)
      · replace h := (if_pos hc).symm.trans h
        refine v_bipush hz (v := (99 : Int32)) (by decide) dX12_block_49 ?_
        refine v_goto (tgt := 55) hz dX12_block_51 (by decide) ?_
        exact v_weak (lvle_s (lvle_s (lvle_s (lvle_n (lvle_n (lvle_n (lvle_n (lvle_n (lvle_n lvle_0))))))))) (wX12_block_55 hz   h)
    · replace h := (if_neg hc).symm.trans h
      refine v_iload_n hz rfl rfl dX12_block_18 ?_
      refine v_iload_n hz rfl rfl dX12_block_19 ?_
      refine v_icmp_eq (tgt := 30) hz dX12_block_20 (by decide) (fun hc => ?_) (fun hc => ?_)
      · replace h := (if_pos hc).symm.trans h
        exact v_weak (lvle_s (lvle_s (lvle_s (lvle_s (lvle_n (lvle_n (lvle_n (lvle_n (lvle_n lvle_0))))))))) (wX12_block_30 hz  (fun h => ih h) h)
      · replace h := (if_neg hc).symm.trans h
        refine v_aload_n hz rfl rfl dX12_block_23 ?_
        obtain ⟨b22, r22, h⟩ := rb_inv h
        refine v_getR hz fl_X12_24 rfl dX12_block_24 ka4 kb4 r22 ?_
        refine v_iload_n hz rfl rfl dX12_block_27 ?_
        refine v_iconst hz (v := (1 : Int32)) (by decide) dX12_block_28 ?_
        obtain ⟨ck23, h⟩ := ck_inv h
        obtain ⟨ka23, kb23⟩ := isK_of ck23
        obtain ⟨g24, h⟩ := ck_inv h
        refine v_iastore hz dX12_block_29 ka23 kb23 g24 ?_
        exact v_weak (lvle_s (lvle_s (lvle_s (lvle_s (lvle_n (lvle_n (lvle_n (lvle_n (lvle_n lvle_0))))))))) (wX12_block_30 hz  (fun h => ih h) h)
set_option maxRecDepth 100000 in
set_option maxHeartbeats 4000000 in
theorem tX12_block (r : Nat) {fx : Fx} {al : Bool} {M N : Mem} {a0 : Nat} {a1 : Int32} {a2 : Int32} {xr : Int32}  (h : fX12_block M a0 a1 a2 = some (xr, N)) : Ct fx yX12_block cX12_block 9 (some .int) (r + 7) 0 0 al [.ref a0, .int a1, .int a2] M (some (.int xr)) N := by
  refine ct_of (lv := [some (.ref a0), some (.int a1), some (.int a2), none, none, none, none, none, none]) (by decide) (Nat.le_of_ble_eq_true rfl) rfl rfl (fun z hz => ?_)
  unfold fX12_block at h
  refine v_aload_n hz rfl rfl dX12_block_0 ?_
  refine v_aload_n hz rfl rfl dX12_block_1 ?_
  obtain ⟨ck1, h⟩ := ck_inv h
  obtain ⟨ka1, kb1⟩ := isK_of ck1
  obtain ⟨b2, r2, h⟩ := rb_inv h
  refine v_getR hz fl_X12_85 rfl dX12_block_2 ka1 kb1 r2 ?_
  obtain ⟨x3, M3, e3, h⟩ := bd_inv h
  refine v_callV hz (As := [.ref b2]) vl_X12_253 (tX12_keep (r + 6) e3) rfl (by decide) ka1 kb1 rfl rfl rfl (Nat.le_of_ble_eq_true rfl) ⟨by decide, by decide⟩ dX12_block_5 ?_
  show V z 8 [some (.ref a0), some (.int a1), some (.int a2), none, none, none, none, none, none] [] M3 0 0
  refine v_iconst hz (v := (0 : Int32)) (by decide) dX12_block_8 ?_
  refine v_istore_n hz (lw := [some (.ref a0), some (.int a1), some (.int a2), some (.int (0 : Int32)), none, none, none, none, none]) rfl (Nat.le_of_ble_eq_true rfl) rfl rfl dX12_block_9 ?_
  exact v_weak (lvle_s (lvle_s (lvle_s (lvle_s (lvle_n (lvle_n (lvle_n (lvle_n (lvle_n lvle_0))))))))) (wX12_block_10 hz   h)
noncomputable def fX12_way (M : Mem) (a0 : Nat) (a1 : Int32) (a2 : Int32) (a3 : Int32) : Option (Int32 × Mem) :=
  ck (isK M a0 12) <| bd (fX12_isOne M a0 a1) fun x2 M2 => if x2 = 0 then (some ((-1 : Int32), M2)) else (bd (fX12_isCell M2 a2) fun x3 M3 => if x3 = 0 then (some ((-1 : Int32), M3)) else (if a3 = (0 : Int32) then (ck (isK M3 a0 12) <| bd (fX12_gets M3 a0 a1 a2) fun x6 M6 => some (x6, M6)) else if a3 = (1 : Int32) then (ck (isK M3 a0 12) <| bd (fX12_steps M3 a0 a1 a2) fun x8 M8 => some (x8, M8)) else if a3 = (2 : Int32) then (ck (isK M3 a0 12) <| bd (fX12_block M3 a0 a1 a2) fun x10 M10 => some (x10, M10)) else (some ((-1 : Int32), M3))))
set_option maxRecDepth 100000 in
set_option maxHeartbeats 4000000 in
theorem tX12_way (r : Nat) {fx : Fx} {al : Bool} {M N : Mem} {a0 : Nat} {a1 : Int32} {a2 : Int32} {a3 : Int32} {xr : Int32}  (h : fX12_way M a0 a1 a2 a3 = some (xr, N)) : Ct fx yX12_way cX12_way 4 (some .int) (r + 8) 0 0 al [.ref a0, .int a1, .int a2, .int a3] M (some (.int xr)) N := by
  refine ct_of (lv := [some (.ref a0), some (.int a1), some (.int a2), some (.int a3)]) (by decide) (Nat.le_of_ble_eq_true rfl) rfl rfl (fun z hz => ?_)
  unfold fX12_way at h
  refine v_aload_n hz rfl rfl dX12_way_0 ?_
  refine v_iload_n hz rfl rfl dX12_way_1 ?_
  obtain ⟨ck1, h⟩ := ck_inv h
  obtain ⟨ka1, kb1⟩ := isK_of ck1
  obtain ⟨x2, M2, e2, h⟩ := bd_inv h
  refine v_callV hz (As := [.int a1]) vl_X12_116 (tX12_isOne (r + 6) e2) rfl (by decide) ka1 kb1 rfl rfl rfl (Nat.le_of_ble_eq_true rfl) ⟨by decide, by decide⟩ dX12_way_2 ?_
  show V z 5 [some (.ref a0), some (.int a1), some (.int a2), some (.int a3)] [.int x2] M2 0 0
  refine v_if_eq (tgt := 15) hz dX12_way_5 (by decide) (fun hc => ?_) (fun hc => ?_)
  · replace h := (if_pos hc).symm.trans h
    refine v_iconst hz (v := (-1 : Int32)) (by decide) dX12_way_15 ?_
    obtain ⟨rfl, rfl⟩ := sp_inv h
    exact v_iret hz dX12_way_16 (by decide) (by decide)
  · replace h := (if_neg hc).symm.trans h
    refine v_iload_n hz rfl rfl dX12_way_8 ?_
    obtain ⟨x3, M3, e3, h⟩ := bd_inv h
    refine v_callS hz (As := [.int a2]) sl_X12_112 (tX12_isCell (r + 6) e3) rfl rfl rfl (Nat.le_of_ble_eq_true rfl) ⟨by decide, by decide⟩ dX12_way_9 ?_
    show V z 12 [some (.ref a0), some (.int a1), some (.int a2), some (.int a3)] [.int x3] M3 0 0
    refine v_if_ne (tgt := 17) hz dX12_way_12 (by decide) (fun hc => ?_) (fun hc => ?_)
    · replace h := (if_neg hc).symm.trans h
      refine v_iload_n hz rfl rfl dX12_way_17 ?_
      by_cases hs4_0 : a3 = (0 : Int32)
      · replace h := (if_pos hs4_0).symm.trans h
        refine v_tableAt (tgt := 44) hz hs4_0 dX12_way_18 (by decide) (by decide) (by decide) (by decide) ?_
        refine v_aload_n hz rfl rfl dX12_way_44 ?_
        refine v_iload_n hz rfl rfl dX12_way_45 ?_
        refine v_iload_n hz rfl rfl dX12_way_46 ?_
        obtain ⟨ck5, h⟩ := ck_inv h
        obtain ⟨ka5, kb5⟩ := isK_of ck5
        obtain ⟨x6, M6, e6, h⟩ := bd_inv h
        refine v_callV hz (As := [.int a1, .int a2]) vl_X12_260 (tX12_gets (r + 1) e6) rfl (by decide) ka5 kb5 rfl rfl rfl (Nat.le_of_ble_eq_true rfl) ⟨by decide, by decide⟩ dX12_way_47 ?_
        show V z 50 [some (.ref a0), some (.int a1), some (.int a2), some (.int a3)] [.int x6] M6 0 0
        obtain ⟨rfl, rfl⟩ := sp_inv h
        exact v_iret hz dX12_way_50 (by decide) (by decide)
      replace h := (if_neg hs4_0).symm.trans h
      by_cases hs4_1 : a3 = (1 : Int32)
      · replace h := (if_pos hs4_1).symm.trans h
        refine v_tableAt (tgt := 51) hz hs4_1 dX12_way_18 (by decide) (by decide) (by decide) (by decide) ?_
        refine v_aload_n hz rfl rfl dX12_way_51 ?_
        refine v_iload_n hz rfl rfl dX12_way_52 ?_
        refine v_iload_n hz rfl rfl dX12_way_53 ?_
        obtain ⟨ck7, h⟩ := ck_inv h
        obtain ⟨ka7, kb7⟩ := isK_of ck7
        obtain ⟨x8, M8, e8, h⟩ := bd_inv h
        refine v_callV hz (As := [.int a1, .int a2]) vl_X12_263 (tX12_steps (r + 5) e8) rfl (by decide) ka7 kb7 rfl rfl rfl (Nat.le_of_ble_eq_true rfl) ⟨by decide, by decide⟩ dX12_way_54 ?_
        show V z 57 [some (.ref a0), some (.int a1), some (.int a2), some (.int a3)] [.int x8] M8 0 0
        obtain ⟨rfl, rfl⟩ := sp_inv h
        exact v_iret hz dX12_way_57 (by decide) (by decide)
      replace h := (if_neg hs4_1).symm.trans h
      by_cases hs4_2 : a3 = (2 : Int32)
      · replace h := (if_pos hs4_2).symm.trans h
        refine v_tableAt (tgt := 58) hz hs4_2 dX12_way_18 (by decide) (by decide) (by decide) (by decide) ?_
        refine v_aload_n hz rfl rfl dX12_way_58 ?_
        refine v_iload_n hz rfl rfl dX12_way_59 ?_
        refine v_iload_n hz rfl rfl dX12_way_60 ?_
        obtain ⟨ck9, h⟩ := ck_inv h
        obtain ⟨ka9, kb9⟩ := isK_of ck9
        obtain ⟨x10, M10, e10, h⟩ := bd_inv h
        refine v_callV hz (As := [.int a1, .int a2]) vl_X12_266 (tX12_block (r + 0) e10) rfl (by decide) ka9 kb9 rfl rfl rfl (Nat.le_of_ble_eq_true rfl) ⟨by decide, by decide⟩ dX12_way_61 ?_
        show V z 64 [some (.ref a0), some (.int a1), some (.int a2), some (.int a3)] [.int x10] M10 0 0
        obtain ⟨rfl, rfl⟩ := sp_inv h
        exact v_iret hz dX12_way_64 (by decide) (by decide)
      replace h := (if_neg hs4_2).symm.trans h
      refine v_tableOut (tgt := 65) hz dX12_way_18 (by have q0 := lv_neT hs4_0 (show ((0 : Int32)).toInt = 0 by decide); have q1 := lv_neT hs4_1 (show ((1 : Int32)).toInt = 1 by decide); have q2 := lv_neT hs4_2 (show ((2 : Int32)).toInt = 2 by decide); omega) (by decide) ?_
      refine v_iconst hz (v := (-1 : Int32)) (by decide) dX12_way_65 ?_
      obtain ⟨rfl, rfl⟩ := sp_inv h
      exact v_iret hz dX12_way_66 (by decide) (by decide)
    · replace h := (if_pos hc).symm.trans h
      refine v_iconst hz (v := (-1 : Int32)) (by decide) dX12_way_15 ?_
      obtain ⟨rfl, rfl⟩ := sp_inv h
      exact v_iret hz dX12_way_16 (by decide) (by decide)
noncomputable def gX12_areNext_2  : Nat → Mem → Int32 → Int32 → Int32 → Option (Int32 × Mem)
  | 0, _, _, _, _ => none
  | n + 1, M, l0, l1, l2 => if (4 : Int32) ≤ l2 then (some ((0 : Int32), M)) else (bd (fX12_next M l0 l2) fun x1 M1 => if x1 = l1 then (some ((1 : Int32), M1)) else ((gX12_areNext_2 n) M1 l0 l1 (l2 + (1 : Int32))))
noncomputable def fX12_areNext (M : Mem) (a0 : Int32) (a1 : Int32) : Option (Int32 × Mem) :=
  gX12_areNext_2 FU M a0 a1 (0 : Int32)
set_option maxRecDepth 100000 in
set_option maxHeartbeats 4000000 in
theorem gX12_areNext_2_s  (n : Nat) (M : Mem) (l0 : Int32) (l1 : Int32) (l2 : Int32) : gX12_areNext_2  (n + 1) M l0 l1 l2 = (if (4 : Int32) ≤ l2 then (some ((0 : Int32), M)) else (bd (fX12_next M l0 l2) fun x1 M1 => if x1 = l1 then (some ((1 : Int32), M1)) else ((gX12_areNext_2 n) M1 l0 l1 (l2 + (1 : Int32))))) := rfl
set_option maxRecDepth 100000 in
set_option maxHeartbeats 4000000 in
theorem wX12_areNext_2 {z : Zx} {fx : Fx} {al : Bool} {r : Nat} {N : Mem} {xr : Int32} (hz : Zok z fx al yX12_areNext.cls yX12_areNext.name cX12_areNext (some .boolean) 3 (r + 1) 0 0 (some (.int xr)) N)    : ∀ {n : Nat} {M : Mem} {l0 : Int32} {l1 : Int32} {l2 : Int32}, gX12_areNext_2  n M l0 l1 l2 = some (xr, N) → V z 2 [some (.int l0), some (.int l1), some (.int l2)] [] M 0 0 := by
  intro n
  induction n with
  | zero => intro M l0 l1 l2 h; cases h
  | succ n ih =>
    intro M l0 l1 l2 h
    replace h := (gX12_areNext_2_s  n M l0 l1 l2).symm.trans h
    refine v_iload_n hz rfl rfl dX12_areNext_2 ?_
    refine v_iconst hz (v := (4 : Int32)) (by decide) dX12_areNext_3 ?_
    refine v_icmp_ge (tgt := 24) hz dX12_areNext_4 (by decide) (fun hc => ?_) (fun hc => ?_)
    · replace h := (if_pos hc).symm.trans h
      refine v_iconst hz (v := (0 : Int32)) (by decide) dX12_areNext_24 ?_
      obtain ⟨rfl, rfl⟩ := sp_inv h
      exact v_zret hz (Or.inl rfl) dX12_areNext_25 (by decide) (by decide)
    · replace h := (if_neg hc).symm.trans h
      refine v_iload_n hz rfl rfl dX12_areNext_7 ?_
      refine v_iload_n hz rfl rfl dX12_areNext_8 ?_
      obtain ⟨x1, M1, e1, h⟩ := bd_inv h
      refine v_callS hz (As := [.int l0, .int l2]) sl_X12_224 (tX12_next (r + 0) e1) rfl rfl rfl (Nat.le_of_ble_eq_true rfl) ⟨by decide, by decide⟩ dX12_areNext_9 ?_
      show V z 12 [some (.int l0), some (.int l1), some (.int l2)] [.int x1] M1 0 0
      refine v_iload_n hz rfl rfl dX12_areNext_12 ?_
      refine v_icmp_ne (tgt := 18) hz dX12_areNext_13 (by decide) (fun hc => ?_) (fun hc => ?_)
      · replace h := (if_neg hc).symm.trans h
        refine v_iinc hz (v := (l2 + (1 : Int32))) (lw := [some (.int l0), some (.int l1), some (.int (l2 + (1 : Int32)))]) rfl (congrArg (fun q => l2 + q) (show Int32.ofInt (1) = (1 : Int32) by decide)) rfl rfl dX12_areNext_18 ?_
        refine v_goto (tgt := 2) hz dX12_areNext_21 (by decide) ?_
        exact v_weak (lvle_s (lvle_s (lvle_s lvle_0))) (ih h)
      · replace h := (if_pos hc).symm.trans h
        refine v_iconst hz (v := (1 : Int32)) (by decide) dX12_areNext_16 ?_
        obtain ⟨rfl, rfl⟩ := sp_inv h
        exact v_zret hz (Or.inr rfl) dX12_areNext_17 (by decide) (by decide)
set_option maxRecDepth 100000 in
set_option maxHeartbeats 4000000 in
theorem tX12_areNext (r : Nat) {fx : Fx} {al : Bool} {M N : Mem} {a0 : Int32} {a1 : Int32} {xr : Int32}  (h : fX12_areNext M a0 a1 = some (xr, N)) : Ct fx yX12_areNext cX12_areNext 3 (some .boolean) (r + 1) 0 0 al [.int a0, .int a1] M (some (.int xr)) N := by
  refine ct_of (lv := [some (.int a0), some (.int a1), none]) (by decide) (Nat.le_of_ble_eq_true rfl) rfl rfl (fun z hz => ?_)
  unfold fX12_areNext at h
  refine v_iconst hz (v := (0 : Int32)) (by decide) dX12_areNext_0 ?_
  refine v_istore_n hz (lw := [some (.int a0), some (.int a1), some (.int (0 : Int32))]) rfl (Nat.le_of_ble_eq_true rfl) rfl rfl dX12_areNext_1 ?_
  exact v_weak (lvle_s (lvle_s (lvle_s lvle_0))) (wX12_areNext_2 hz   h)
