noncomputable def fX12_read (M : Mem) (a0 : Nat) (a1 : Int32) (a2 : Int32) : Option (Int64 × Mem) :=
  bd (fX12_isTape M a1) fun x1 M1 => if x1 = 0 then (some ((-9223372036854775808 : Int64), M1)) else (ck (isK M1 a0 12) <| rb (mR M1 a0 41) fun b3 => ck (isK M1 b3 14) <| ck (inb a1 (mG M1 b3)) <| if (mI M1 b3 a1.toNatClampNeg) < 0 then (some ((-9223372036854775808 : Int64), M1)) else (rb (mR M1 a0 42) fun b6 => ck (isK M1 b6 14) <| ck (inb a1 (mG M1 b6)) <| bd (fX12_within M1 a2 (0 : Int32) ((mI M1 b6 a1.toNatClampNeg) - (1 : Int32))) fun x9 M9 => if x9 = 0 then (some ((-9223372036854775808 : Int64), M9)) else (ck (isK M9 a0 12) <| rb (mR M9 a0 43) fun b11 => ck (isK M9 b11 15) <| ck (inb (((60 : Int32) * a1) + a2) (mG M9 b11)) <| some ((mL M9 b11 (((60 : Int32) * a1) + a2).toNatClampNeg), M9))))
set_option maxRecDepth 100000 in
set_option maxHeartbeats 4000000 in
theorem tX12_read (r : Nat) {fx : Fx} {al : Bool} {M N : Mem} {a0 : Nat} {a1 : Int32} {a2 : Int32} {xr : Int64}  (h : fX12_read M a0 a1 a2 = some (xr, N)) : Ct fx yX12_read cX12_read 3 (some .long) (r + 2) 0 0 al [.ref a0, .int a1, .int a2] M (some (.long xr)) N := by
  refine ct_of (lv := [some (.ref a0), some (.int a1), some (.int a2)]) (by decide) (Nat.le_of_ble_eq_true rfl) rfl rfl (fun z hz => ?_)
  unfold fX12_read at h
  refine v_iload_n hz rfl rfl dX12_read_0 ?_
  obtain ⟨x1, M1, e1, h⟩ := bd_inv h
  refine v_callS hz (As := [.int a1]) sl_X12_314 (tX12_isTape (r + 0) e1) rfl rfl rfl (Nat.le_of_ble_eq_true rfl) ⟨by decide, by decide⟩ dX12_read_1 ?_
  show V z 4 [some (.ref a0), some (.int a1), some (.int a2)] [.int x1] M1 0 0
  refine v_if_eq (tgt := 46) hz dX12_read_4 (by decide) (fun hc => ?_) (fun hc => ?_)
  · replace h := (if_pos hc).symm.trans h
    refine v_ldc2 hz wq_1241 dX12_read_46 ?_
    obtain ⟨rfl, rfl⟩ := sp_inv h
    exact v_lret hz dX12_read_49 (by decide) (by decide)
  · replace h := (if_neg hc).symm.trans h
    refine v_aload_n hz rfl rfl dX12_read_7 ?_
    obtain ⟨ck2, h⟩ := ck_inv h
    obtain ⟨ka2, kb2⟩ := isK_of ck2
    obtain ⟨b3, r3, h⟩ := rb_inv h
    refine v_getR hz fl_X12_91 rfl dX12_read_8 ka2 kb2 r3 ?_
    refine v_iload_n hz rfl rfl dX12_read_11 ?_
    obtain ⟨ck4, h⟩ := ck_inv h
    obtain ⟨ka4, kb4⟩ := isK_of ck4
    obtain ⟨g5, h⟩ := ck_inv h
    refine v_iaload hz dX12_read_12 ka4 kb4 g5 ?_
    refine v_if_lt (tgt := 46) hz dX12_read_13 (by decide) (fun hc => ?_) (fun hc => ?_)
    · replace h := (if_pos hc).symm.trans h
      refine v_ldc2 hz wq_1241 dX12_read_46 ?_
      obtain ⟨rfl, rfl⟩ := sp_inv h
      exact v_lret hz dX12_read_49 (by decide) (by decide)
    · replace h := (if_neg hc).symm.trans h
      refine v_iload_n hz rfl rfl dX12_read_16 ?_
      refine v_iconst hz (v := (0 : Int32)) (by decide) dX12_read_17 ?_
      refine v_aload_n hz rfl rfl dX12_read_18 ?_
      obtain ⟨b6, r6, h⟩ := rb_inv h
      refine v_getR hz fl_X12_94 rfl dX12_read_19 ka2 kb2 r6 ?_
      refine v_iload_n hz rfl rfl dX12_read_22 ?_
      obtain ⟨ck7, h⟩ := ck_inv h
      obtain ⟨ka7, kb7⟩ := isK_of ck7
      obtain ⟨g8, h⟩ := ck_inv h
      refine v_iaload hz dX12_read_23 ka7 kb7 g8 ?_
      refine v_iconst hz (v := (1 : Int32)) (by decide) dX12_read_24 ?_
      refine v_isub hz dX12_read_25 ?_
      obtain ⟨x9, M9, e9, h⟩ := bd_inv h
      refine v_callS hz (As := [.int a2, .int (0 : Int32), .int ((mI M1 b6 a1.toNatClampNeg) - (1 : Int32))]) sl_X12_108 (tX12_within (r + 1) e9) rfl rfl rfl (Nat.le_of_ble_eq_true rfl) ⟨by decide, by decide⟩ dX12_read_26 ?_
      show V z 29 [some (.ref a0), some (.int a1), some (.int a2)] [.int x9] M9 0 0
      refine v_if_eq (tgt := 46) hz dX12_read_29 (by decide) (fun hc => ?_) (fun hc => ?_)
      · replace h := (if_pos hc).symm.trans h
        refine v_ldc2 hz wq_1241 dX12_read_46 ?_
        obtain ⟨rfl, rfl⟩ := sp_inv h
        exact v_lret hz dX12_read_49 (by decide) (by decide)
      · replace h := (if_neg hc).symm.trans h
        refine v_aload_n hz rfl rfl dX12_read_32 ?_
        obtain ⟨ck10, h⟩ := ck_inv h
        obtain ⟨ka10, kb10⟩ := isK_of ck10
        obtain ⟨b11, r11, h⟩ := rb_inv h
        refine v_getR hz fl_X12_97 rfl dX12_read_33 ka10 kb10 r11 ?_
        refine v_bipush hz (v := (60 : Int32)) (by decide) dX12_read_36 ?_
        refine v_iload_n hz rfl rfl dX12_read_38 ?_
        refine v_imul hz dX12_read_39 ?_
        refine v_iload_n hz rfl rfl dX12_read_40 ?_
        refine v_iadd hz dX12_read_41 ?_
        obtain ⟨ck12, h⟩ := ck_inv h
        obtain ⟨ka12, kb12⟩ := isK_of ck12
        obtain ⟨g13, h⟩ := ck_inv h
        refine v_laload hz dX12_read_42 ka12 kb12 g13 ?_
        refine v_goto (tgt := 49) hz dX12_read_43 (by decide) ?_
        obtain ⟨rfl, rfl⟩ := sp_inv h
        exact v_lret hz dX12_read_49 (by decide) (by decide)
noncomputable def gX12_shift_170  : Nat → Mem → Nat → Int32 → Int32 → Int32 → Int32 → Int32 → Int32 → Option (Int32 × Mem)
  | 0, _, _, _, _, _, _, _, _ => none
  | n + 1, M, l0, l1, l2, l3, l4, l5, l6 => if l5 ≤ l6 then (some (l5, M)) else (ck (isK M l0 12) <| rb (mR M l0 43) fun b15 => ck (isK M b15 15) <| ck (inb ((((60 : Int32) * l1) + l2) + l6) (mG M b15)) <| ck (inb ((((60 : Int32) * l3) + l4) + l6) (mG M b15)) <| (gX12_shift_170 n) (stL M b15 ((((60 : Int32) * l3) + l4) + l6).toNatClampNeg (mL M b15 ((((60 : Int32) * l1) + l2) + l6).toNatClampNeg)) l0 l1 l2 l3 l4 l5 (l6 + (1 : Int32)))
noncomputable def gX12_shift_167  (M : Mem) (l0 : Nat) (l1 : Int32) (l2 : Int32) (l3 : Int32) (l4 : Int32) (l5 : Int32) : Option (Int32 × Mem) :=
  gX12_shift_170 FU M l0 l1 l2 l3 l4 l5 (0 : Int32)
noncomputable def gX12_shift_124  : Nat → Mem → Nat → Int32 → Int32 → Int32 → Int32 → Int32 → Int32 → Option (Int32 × Mem)
  | 0, _, _, _, _, _, _, _, _ => none
  | n + 1, M, l0, l1, l2, l3, l4, l5, l6 => if l6 < 0 then (some (l5, M)) else (ck (isK M l0 12) <| rb (mR M l0 43) fun b20 => ck (isK M b20 15) <| ck (inb ((((60 : Int32) * l1) + l2) + l6) (mG M b20)) <| ck (inb ((((60 : Int32) * l3) + l4) + l6) (mG M b20)) <| (gX12_shift_124 n) (stL M b20 ((((60 : Int32) * l3) + l4) + l6).toNatClampNeg (mL M b20 ((((60 : Int32) * l1) + l2) + l6).toNatClampNeg)) l0 l1 l2 l3 l4 l5 (l6 + (-1 : Int32)))
noncomputable def fX12_shift (M : Mem) (a0 : Nat) (a1 : Int32) (a2 : Int32) (a3 : Int32) (a4 : Int32) (a5 : Int32) : Option (Int32 × Mem) :=
  bd (fX12_isTape M a1) fun x1 M1 => if x1 = 0 then (some ((-1 : Int32), M1)) else (bd (fX12_isTape M1 a3) fun x2 M2 => if x2 = 0 then (some ((-1 : Int32), M2)) else (ck (isK M2 a0 12) <| rb (mR M2 a0 41) fun b4 => ck (isK M2 b4 14) <| ck (inb a1 (mG M2 b4)) <| if (mI M2 b4 a1.toNatClampNeg) < 0 then (some ((-11 : Int32), M2)) else (ck (inb a3 (mG M2 b4)) <| if 0 ≤ (mI M2 b4 a3.toNatClampNeg) then (ck (inb a1 (mG M2 b4)) <| ck (inb a3 (mG M2 b4)) <| if (mI M2 b4 a1.toNatClampNeg) = (mI M2 b4 a3.toNatClampNeg) then (if a5 < 0 then (some ((-13 : Int32), M2)) else (if a2 < 0 then (some ((-13 : Int32), M2)) else (if a4 < 0 then (some ((-13 : Int32), M2)) else (rb (mR M2 a0 42) fun b10 => ck (isK M2 b10 14) <| ck (inb a1 (mG M2 b10)) <| if 0 < (lg_cmp (a2.toInt64 + a5.toInt64) ((mI M2 b10 a1.toNatClampNeg).toInt64)) then (some ((-13 : Int32), M2)) else (ck (inb a3 (mG M2 b10)) <| if (lg_cmp (a4.toInt64 + a5.toInt64) ((mI M2 b10 a3.toNatClampNeg).toInt64)) ≤ 0 then (if a1 = a3 then (if a4 ≤ a2 then (gX12_shift_167 M2 a0 a1 a2 a3 a4 a5) else (gX12_shift_124 FU M2 a0 a1 a2 a3 a4 a5 (a5 - (1 : Int32)))) else (gX12_shift_167 M2 a0 a1 a2 a3 a4 a5)) else (some ((-13 : Int32), M2))))))) else (some ((-12 : Int32), M2))) else (some ((-11 : Int32), M2)))))
set_option maxRecDepth 100000 in
set_option maxHeartbeats 4000000 in
theorem gX12_shift_170_s  (n : Nat) (M : Mem) (l0 : Nat) (l1 : Int32) (l2 : Int32) (l3 : Int32) (l4 : Int32) (l5 : Int32) (l6 : Int32) : gX12_shift_170  (n + 1) M l0 l1 l2 l3 l4 l5 l6 = (if l5 ≤ l6 then (some (l5, M)) else (ck (isK M l0 12) <| rb (mR M l0 43) fun b15 => ck (isK M b15 15) <| ck (inb ((((60 : Int32) * l1) + l2) + l6) (mG M b15)) <| ck (inb ((((60 : Int32) * l3) + l4) + l6) (mG M b15)) <| (gX12_shift_170 n) (stL M b15 ((((60 : Int32) * l3) + l4) + l6).toNatClampNeg (mL M b15 ((((60 : Int32) * l1) + l2) + l6).toNatClampNeg)) l0 l1 l2 l3 l4 l5 (l6 + (1 : Int32)))) := rfl
set_option maxRecDepth 100000 in
set_option maxHeartbeats 4000000 in
theorem wX12_shift_170 {z : Zx} {fx : Fx} {al : Bool} {r : Nat} {N : Mem} {xr : Int32} (hz : Zok z fx al yX12_shift.cls yX12_shift.name cX12_shift (some .int) 7 (r + 2) 0 0 (some (.int xr)) N)    : ∀ {n : Nat} {M : Mem} {l0 : Nat} {l1 : Int32} {l2 : Int32} {l3 : Int32} {l4 : Int32} {l5 : Int32} {l6 : Int32}, gX12_shift_170  n M l0 l1 l2 l3 l4 l5 l6 = some (xr, N) → V z 170 [some (.ref l0), some (.int l1), some (.int l2), some (.int l3), some (.int l4), some (.int l5), some (.int l6)] [] M 0 0 := by
  intro n
  induction n with
  | zero => intro M l0 l1 l2 l3 l4 l5 l6 h; cases h
  | succ n ih =>
    intro M l0 l1 l2 l3 l4 l5 l6 h
    replace h := (gX12_shift_170_s  n M l0 l1 l2 l3 l4 l5 l6).symm.trans h
    refine v_iload hz rfl dX12_shift_170 ?_
    refine v_iload hz rfl dX12_shift_172 ?_
    refine v_icmp_ge (tgt := 212) hz dX12_shift_174 (by decide) (fun hc => ?_) (fun hc => ?_)
    · replace h := (if_pos hc).symm.trans h
      refine v_iload hz rfl dX12_shift_212 ?_
      obtain ⟨rfl, rfl⟩ := sp_inv h
      exact v_iret hz dX12_shift_214 (by decide) (by decide)
    · replace h := (if_neg hc).symm.trans h
      refine v_aload_n hz rfl rfl dX12_shift_177 ?_
      obtain ⟨ck14, h⟩ := ck_inv h
      obtain ⟨ka14, kb14⟩ := isK_of ck14
      obtain ⟨b15, r15, h⟩ := rb_inv h
      refine v_getR hz fl_X12_97 rfl dX12_shift_178 ka14 kb14 r15 ?_
      refine v_bipush hz (v := (60 : Int32)) (by decide) dX12_shift_181 ?_
      refine v_iload_n hz rfl rfl dX12_shift_183 ?_
      refine v_imul hz dX12_shift_184 ?_
      refine v_iload hz rfl dX12_shift_185 ?_
      refine v_iadd hz dX12_shift_187 ?_
      refine v_iload hz rfl dX12_shift_188 ?_
      refine v_iadd hz dX12_shift_190 ?_
      refine v_aload_n hz rfl rfl dX12_shift_191 ?_
      refine v_getR hz fl_X12_97 rfl dX12_shift_192 ka14 kb14 r15 ?_
      refine v_bipush hz (v := (60 : Int32)) (by decide) dX12_shift_195 ?_
      refine v_iload_n hz rfl rfl dX12_shift_197 ?_
      refine v_imul hz dX12_shift_198 ?_
      refine v_iload_n hz rfl rfl dX12_shift_199 ?_
      refine v_iadd hz dX12_shift_200 ?_
      refine v_iload hz rfl dX12_shift_201 ?_
      refine v_iadd hz dX12_shift_203 ?_
      obtain ⟨ck16, h⟩ := ck_inv h
      obtain ⟨ka16, kb16⟩ := isK_of ck16
      obtain ⟨g17, h⟩ := ck_inv h
      refine v_laload hz dX12_shift_204 ka16 kb16 g17 ?_
      obtain ⟨g18, h⟩ := ck_inv h
      refine v_lastore hz dX12_shift_205 ka16 kb16 g18 ?_
      refine v_iinc hz (v := (l6 + (1 : Int32))) (lw := [some (.ref l0), some (.int l1), some (.int l2), some (.int l3), some (.int l4), some (.int l5), some (.int (l6 + (1 : Int32)))]) rfl (congrArg (fun q => l6 + q) (show Int32.ofInt (1) = (1 : Int32) by decide)) rfl rfl dX12_shift_206 ?_
      refine v_goto (tgt := 170) hz dX12_shift_209 (by decide) ?_
      exact v_weak (lvle_s (lvle_s (lvle_s (lvle_s (lvle_s (lvle_s (lvle_s lvle_0))))))) (ih h)
set_option maxRecDepth 100000 in
set_option maxHeartbeats 4000000 in
theorem wX12_shift_167 {z : Zx} {fx : Fx} {al : Bool} {r : Nat} {N : Mem} {xr : Int32} (hz : Zok z fx al yX12_shift.cls yX12_shift.name cX12_shift (some .int) 7 (r + 2) 0 0 (some (.int xr)) N)    {M : Mem} {l0 : Nat} {l1 : Int32} {l2 : Int32} {l3 : Int32} {l4 : Int32} {l5 : Int32} (h : gX12_shift_167  M l0 l1 l2 l3 l4 l5 = some (xr, N)) : V z 167 [some (.ref l0), some (.int l1), some (.int l2), some (.int l3), some (.int l4), some (.int l5), none] [] M 0 0 := by
  unfold gX12_shift_167 at h
  refine v_iconst hz (v := (0 : Int32)) (by decide) dX12_shift_167 ?_
  refine v_istore hz (lw := [some (.ref l0), some (.int l1), some (.int l2), some (.int l3), some (.int l4), some (.int l5), some (.int (0 : Int32))]) (Nat.le_of_ble_eq_true rfl) rfl rfl dX12_shift_168 ?_
  exact v_weak (lvle_s (lvle_s (lvle_s (lvle_s (lvle_s (lvle_s (lvle_s lvle_0))))))) (wX12_shift_170 hz   h)
set_option maxRecDepth 100000 in
set_option maxHeartbeats 4000000 in
theorem gX12_shift_124_s  (n : Nat) (M : Mem) (l0 : Nat) (l1 : Int32) (l2 : Int32) (l3 : Int32) (l4 : Int32) (l5 : Int32) (l6 : Int32) : gX12_shift_124  (n + 1) M l0 l1 l2 l3 l4 l5 l6 = (if l6 < 0 then (some (l5, M)) else (ck (isK M l0 12) <| rb (mR M l0 43) fun b20 => ck (isK M b20 15) <| ck (inb ((((60 : Int32) * l1) + l2) + l6) (mG M b20)) <| ck (inb ((((60 : Int32) * l3) + l4) + l6) (mG M b20)) <| (gX12_shift_124 n) (stL M b20 ((((60 : Int32) * l3) + l4) + l6).toNatClampNeg (mL M b20 ((((60 : Int32) * l1) + l2) + l6).toNatClampNeg)) l0 l1 l2 l3 l4 l5 (l6 + (-1 : Int32)))) := rfl
set_option maxRecDepth 100000 in
set_option maxHeartbeats 4000000 in
theorem wX12_shift_124 {z : Zx} {fx : Fx} {al : Bool} {r : Nat} {N : Mem} {xr : Int32} (hz : Zok z fx al yX12_shift.cls yX12_shift.name cX12_shift (some .int) 7 (r + 2) 0 0 (some (.int xr)) N)    : ∀ {n : Nat} {M : Mem} {l0 : Nat} {l1 : Int32} {l2 : Int32} {l3 : Int32} {l4 : Int32} {l5 : Int32} {l6 : Int32}, gX12_shift_124  n M l0 l1 l2 l3 l4 l5 l6 = some (xr, N) → V z 124 [some (.ref l0), some (.int l1), some (.int l2), some (.int l3), some (.int l4), some (.int l5), some (.int l6)] [] M 0 0 := by
  intro n
  induction n with
  | zero => intro M l0 l1 l2 l3 l4 l5 l6 h; cases h
  | succ n ih =>
    intro M l0 l1 l2 l3 l4 l5 l6 h
    replace h := (gX12_shift_124_s  n M l0 l1 l2 l3 l4 l5 l6).symm.trans h
    refine v_iload hz rfl dX12_shift_124 ?_
    refine v_if_lt (tgt := 164) hz dX12_shift_126 (by decide) (fun hc => ?_) (fun hc => ?_)
    · replace h := (if_pos hc).symm.trans h
      refine v_goto (tgt := 212) hz dX12_shift_164 (by decide) ?_
      refine v_iload hz rfl dX12_shift_212 ?_
      obtain ⟨rfl, rfl⟩ := sp_inv h
      exact v_iret hz dX12_shift_214 (by decide) (by decide)
    · replace h := (if_neg hc).symm.trans h
      refine v_aload_n hz rfl rfl dX12_shift_129 ?_
      obtain ⟨ck19, h⟩ := ck_inv h
      obtain ⟨ka19, kb19⟩ := isK_of ck19
      obtain ⟨b20, r20, h⟩ := rb_inv h
      refine v_getR hz fl_X12_97 rfl dX12_shift_130 ka19 kb19 r20 ?_
      refine v_bipush hz (v := (60 : Int32)) (by decide) dX12_shift_133 ?_
      refine v_iload_n hz rfl rfl dX12_shift_135 ?_
      refine v_imul hz dX12_shift_136 ?_
      refine v_iload hz rfl dX12_shift_137 ?_
      refine v_iadd hz dX12_shift_139 ?_
      refine v_iload hz rfl dX12_shift_140 ?_
      refine v_iadd hz dX12_shift_142 ?_
      refine v_aload_n hz rfl rfl dX12_shift_143 ?_
      refine v_getR hz fl_X12_97 rfl dX12_shift_144 ka19 kb19 r20 ?_
      refine v_bipush hz (v := (60 : Int32)) (by decide) dX12_shift_147 ?_
      refine v_iload_n hz rfl rfl dX12_shift_149 ?_
      refine v_imul hz dX12_shift_150 ?_
      refine v_iload_n hz rfl rfl dX12_shift_151 ?_
      refine v_iadd hz dX12_shift_152 ?_
      refine v_iload hz rfl dX12_shift_153 ?_
      refine v_iadd hz dX12_shift_155 ?_
      obtain ⟨ck21, h⟩ := ck_inv h
      obtain ⟨ka21, kb21⟩ := isK_of ck21
      obtain ⟨g22, h⟩ := ck_inv h
      refine v_laload hz dX12_shift_156 ka21 kb21 g22 ?_
      obtain ⟨g23, h⟩ := ck_inv h
      refine v_lastore hz dX12_shift_157 ka21 kb21 g23 ?_
      refine v_iinc hz (v := (l6 + (-1 : Int32))) (lw := [some (.ref l0), some (.int l1), some (.int l2), some (.int l3), some (.int l4), some (.int l5), some (.int (l6 + (-1 : Int32)))]) rfl (congrArg (fun q => l6 + q) (show Int32.ofInt (-1) = (-1 : Int32) by decide)) rfl rfl dX12_shift_158 ?_
      refine v_goto (tgt := 124) hz dX12_shift_161 (by decide) ?_
      exact v_weak (lvle_s (lvle_s (lvle_s (lvle_s (lvle_s (lvle_s (lvle_s lvle_0))))))) (ih h)
set_option maxRecDepth 100000 in
set_option maxHeartbeats 4000000 in
theorem tX12_shift (r : Nat) {fx : Fx} {al : Bool} {M N : Mem} {a0 : Nat} {a1 : Int32} {a2 : Int32} {a3 : Int32} {a4 : Int32} {a5 : Int32} {xr : Int32}  (h : fX12_shift M a0 a1 a2 a3 a4 a5 = some (xr, N)) : Ct fx yX12_shift cX12_shift 7 (some .int) (r + 2) 0 0 al [.ref a0, .int a1, .int a2, .int a3, .int a4, .int a5] M (some (.int xr)) N := by
  refine ct_of (lv := [some (.ref a0), some (.int a1), some (.int a2), some (.int a3), some (.int a4), some (.int a5), none]) (by decide) (Nat.le_of_ble_eq_true rfl) rfl rfl (fun z hz => ?_)
  unfold fX12_shift at h
  refine v_iload_n hz rfl rfl dX12_shift_0 ?_
  obtain ⟨x1, M1, e1, h⟩ := bd_inv h
  refine v_callS hz (As := [.int a1]) sl_X12_314 (tX12_isTape (r + 0) e1) rfl rfl rfl (Nat.le_of_ble_eq_true rfl) ⟨by decide, by decide⟩ dX12_shift_1 ?_
  show V z 4 [some (.ref a0), some (.int a1), some (.int a2), some (.int a3), some (.int a4), some (.int a5), none] [.int x1] M1 0 0
  refine v_if_eq (tgt := 14) hz dX12_shift_4 (by decide) (fun hc => ?_) (fun hc => ?_)
  · replace h := (if_pos hc).symm.trans h
    refine v_iconst hz (v := (-1 : Int32)) (by decide) dX12_shift_14 ?_
    obtain ⟨rfl, rfl⟩ := sp_inv h
    exact v_iret hz dX12_shift_15 (by decide) (by decide)
  · replace h := (if_neg hc).symm.trans h
    refine v_iload_n hz rfl rfl dX12_shift_7 ?_
    obtain ⟨x2, M2, e2, h⟩ := bd_inv h
    refine v_callS hz (As := [.int a3]) sl_X12_314 (tX12_isTape (r + 0) e2) rfl rfl rfl (Nat.le_of_ble_eq_true rfl) ⟨by decide, by decide⟩ dX12_shift_8 ?_
    show V z 11 [some (.ref a0), some (.int a1), some (.int a2), some (.int a3), some (.int a4), some (.int a5), none] [.int x2] M2 0 0
    refine v_if_ne (tgt := 16) hz dX12_shift_11 (by decide) (fun hc => ?_) (fun hc => ?_)
    · replace h := (if_neg hc).symm.trans h
      refine v_aload_n hz rfl rfl dX12_shift_16 ?_
      obtain ⟨ck3, h⟩ := ck_inv h
      obtain ⟨ka3, kb3⟩ := isK_of ck3
      obtain ⟨b4, r4, h⟩ := rb_inv h
      refine v_getR hz fl_X12_91 rfl dX12_shift_17 ka3 kb3 r4 ?_
      refine v_iload_n hz rfl rfl dX12_shift_20 ?_
      obtain ⟨ck5, h⟩ := ck_inv h
      obtain ⟨ka5, kb5⟩ := isK_of ck5
      obtain ⟨g6, h⟩ := ck_inv h
      refine v_iaload hz dX12_shift_21 ka5 kb5 g6 ?_
      refine v_if_lt (tgt := 34) hz dX12_shift_22 (by decide) (fun hc => ?_) (fun hc => ?_)
      · replace h := (if_pos hc).symm.trans h
        refine v_bipush hz (v := (-11 : Int32)) (by decide) dX12_shift_34 ?_
        obtain ⟨rfl, rfl⟩ := sp_inv h
        exact v_iret hz dX12_shift_36 (by decide) (by decide)
      · replace h := (if_neg hc).symm.trans h
        refine v_aload_n hz rfl rfl dX12_shift_25 ?_
        refine v_getR hz fl_X12_91 rfl dX12_shift_26 ka3 kb3 r4 ?_
        refine v_iload_n hz rfl rfl dX12_shift_29 ?_
        obtain ⟨g7, h⟩ := ck_inv h
        refine v_iaload hz dX12_shift_30 ka5 kb5 g7 ?_
        refine v_if_ge (tgt := 37) hz dX12_shift_31 (by decide) (fun hc => ?_) (fun hc => ?_)
        · replace h := (if_pos hc).symm.trans h
          refine v_aload_n hz rfl rfl dX12_shift_37 ?_
          refine v_getR hz fl_X12_91 rfl dX12_shift_38 ka3 kb3 r4 ?_
          refine v_iload_n hz rfl rfl dX12_shift_41 ?_
          obtain ⟨g8, h⟩ := ck_inv h
          refine v_iaload hz dX12_shift_42 ka5 kb5 g8 ?_
          refine v_aload_n hz rfl rfl dX12_shift_43 ?_
          refine v_getR hz fl_X12_91 rfl dX12_shift_44 ka3 kb3 r4 ?_
          refine v_iload_n hz rfl rfl dX12_shift_47 ?_
          obtain ⟨g9, h⟩ := ck_inv h
          refine v_iaload hz dX12_shift_48 ka5 kb5 g9 ?_
          refine v_icmp_eq (tgt := 55) hz dX12_shift_49 (by decide) (fun hc => ?_) (fun hc => ?_)
          · replace h := (if_pos hc).symm.trans h
            refine v_iload hz rfl dX12_shift_55 ?_
            refine v_if_lt (tgt := 104) hz dX12_shift_57 (by decide) (fun hc => ?_) (fun hc => ?_)
            · replace h := (if_pos hc).symm.trans h
              refine v_bipush hz (v := (-13 : Int32)) (by decide) dX12_shift_104 ?_
              obtain ⟨rfl, rfl⟩ := sp_inv h
              exact v_iret hz dX12_shift_106 (by decide) (by decide)
            · replace h := (if_neg hc).symm.trans h
              refine v_iload_n hz rfl rfl dX12_shift_60 ?_
              refine v_if_lt (tgt := 104) hz dX12_shift_61 (by decide) (fun hc => ?_) (fun hc => ?_)
              · replace h := (if_pos hc).symm.trans h
                refine v_bipush hz (v := (-13 : Int32)) (by decide) dX12_shift_104 ?_
                obtain ⟨rfl, rfl⟩ := sp_inv h
                exact v_iret hz dX12_shift_106 (by decide) (by decide)
              · replace h := (if_neg hc).symm.trans h
                refine v_iload hz rfl dX12_shift_64 ?_
                refine v_if_lt (tgt := 104) hz dX12_shift_66 (by decide) (fun hc => ?_) (fun hc => ?_)
                · replace h := (if_pos hc).symm.trans h
                  refine v_bipush hz (v := (-13 : Int32)) (by decide) dX12_shift_104 ?_
                  obtain ⟨rfl, rfl⟩ := sp_inv h
                  exact v_iret hz dX12_shift_106 (by decide) (by decide)
                · replace h := (if_neg hc).symm.trans h
                  refine v_iload_n hz rfl rfl dX12_shift_69 ?_
                  refine v_i2l hz dX12_shift_70 ?_
                  refine v_iload hz rfl dX12_shift_71 ?_
                  refine v_i2l hz dX12_shift_73 ?_
                  refine v_ladd hz dX12_shift_74 ?_
                  refine v_aload_n hz rfl rfl dX12_shift_75 ?_
                  obtain ⟨b10, r10, h⟩ := rb_inv h
                  refine v_getR hz fl_X12_94 rfl dX12_shift_76 ka3 kb3 r10 ?_
                  refine v_iload_n hz rfl rfl dX12_shift_79 ?_
                  obtain ⟨ck11, h⟩ := ck_inv h
                  obtain ⟨ka11, kb11⟩ := isK_of ck11
                  obtain ⟨g12, h⟩ := ck_inv h
                  refine v_iaload hz dX12_shift_80 ka11 kb11 g12 ?_
                  refine v_i2l hz dX12_shift_81 ?_
                  refine v_lcmp hz dX12_shift_82 ?_
                  refine v_if_gt (tgt := 104) hz dX12_shift_83 (by decide) (fun hc => ?_) (fun hc => ?_)
                  · replace h := (if_pos hc).symm.trans h
                    refine v_bipush hz (v := (-13 : Int32)) (by decide) dX12_shift_104 ?_
                    obtain ⟨rfl, rfl⟩ := sp_inv h
                    exact v_iret hz dX12_shift_106 (by decide) (by decide)
                  · replace h := (if_neg hc).symm.trans h
                    refine v_iload hz rfl dX12_shift_86 ?_
                    refine v_i2l hz dX12_shift_88 ?_
                    refine v_iload hz rfl dX12_shift_89 ?_
                    refine v_i2l hz dX12_shift_91 ?_
                    refine v_ladd hz dX12_shift_92 ?_
                    refine v_aload_n hz rfl rfl dX12_shift_93 ?_
                    refine v_getR hz fl_X12_94 rfl dX12_shift_94 ka3 kb3 r10 ?_
                    refine v_iload_n hz rfl rfl dX12_shift_97 ?_
                    obtain ⟨g13, h⟩ := ck_inv h
                    refine v_iaload hz dX12_shift_98 ka11 kb11 g13 ?_
                    refine v_i2l hz dX12_shift_99 ?_
                    refine v_lcmp hz dX12_shift_100 ?_
                    refine v_if_le (tgt := 107) hz dX12_shift_101 (by decide) (fun hc => ?_) (fun hc => ?_)
                    · replace h := (if_pos hc).symm.trans h
                      refine v_iload_n hz rfl rfl dX12_shift_107 ?_
                      refine v_iload_n hz rfl rfl dX12_shift_108 ?_
                      refine v_icmp_ne (tgt := 167) hz dX12_shift_109 (by decide) (fun hc => ?_) (fun hc => ?_)
                      · replace h := (if_neg hc).symm.trans h
                        exact v_weak (lvle_s (lvle_s (lvle_s (lvle_s (lvle_s (lvle_s (lvle_n lvle_0))))))) (wX12_shift_167 hz   h)
                      · replace h := (if_pos hc).symm.trans h
                        refine v_iload_n hz rfl rfl dX12_shift_112 ?_
                        refine v_iload hz rfl dX12_shift_113 ?_
                        refine v_icmp_ge (tgt := 167) hz dX12_shift_115 (by decide) (fun hc => ?_) (fun hc => ?_)
                        · replace h := (if_pos hc).symm.trans h
                          exact v_weak (lvle_s (lvle_s (lvle_s (lvle_s (lvle_s (lvle_s (lvle_n lvle_0))))))) (wX12_shift_167 hz   h)
                        · replace h := (if_neg hc).symm.trans h
                          refine v_iload hz rfl dX12_shift_118 ?_
                          refine v_iconst hz (v := (1 : Int32)) (by decide) dX12_shift_120 ?_
                          refine v_isub hz dX12_shift_121 ?_
                          refine v_istore hz (lw := [some (.ref a0), some (.int a1), some (.int a2), some (.int a3), some (.int a4), some (.int a5), some (.int (a5 - (1 : Int32)))]) (Nat.le_of_ble_eq_true rfl) rfl rfl dX12_shift_122 ?_
                          exact v_weak (lvle_s (lvle_s (lvle_s (lvle_s (lvle_s (lvle_s (lvle_s lvle_0))))))) (wX12_shift_124 hz   h)
                    · replace h := (if_neg hc).symm.trans h
                      refine v_bipush hz (v := (-13 : Int32)) (by decide) dX12_shift_104 ?_
                      obtain ⟨rfl, rfl⟩ := sp_inv h
                      exact v_iret hz dX12_shift_106 (by decide) (by decide)
          · replace h := (if_neg hc).symm.trans h
            refine v_bipush hz (v := (-12 : Int32)) (by decide) dX12_shift_52 ?_
            obtain ⟨rfl, rfl⟩ := sp_inv h
            exact v_iret hz dX12_shift_54 (by decide) (by decide)
        · replace h := (if_neg hc).symm.trans h
          refine v_bipush hz (v := (-11 : Int32)) (by decide) dX12_shift_34 ?_
          obtain ⟨rfl, rfl⟩ := sp_inv h
          exact v_iret hz dX12_shift_36 (by decide) (by decide)
    · replace h := (if_pos hc).symm.trans h
      refine v_iconst hz (v := (-1 : Int32)) (by decide) dX12_shift_14 ?_
      obtain ⟨rfl, rfl⟩ := sp_inv h
      exact v_iret hz dX12_shift_15 (by decide) (by decide)
