noncomputable def gX12_again_200  : Nat → Mem → Nat → Nat → Int32 → Option (Unit × Mem)
  | 0, _, _, _, _ => none
  | n + 1, M, l0, l1, l2 => if (8 : Int32) ≤ l2 then (ck (isK M l1 14) <| ck (inb (124 : Int32) (mG M l1)) <| ck (isK M l0 12) <| ck (inb (125 : Int32) (mG M l1)) <| ck (inb (126 : Int32) (mG M l1)) <| nm (stI (stI (stI M l0 1 (mI M l1 (124 : Int32).toNatClampNeg)) l0 7 (mI (stI M l0 1 (mI M l1 (124 : Int32).toNatClampNeg)) l1 (125 : Int32).toNatClampNeg)) l0 24 (mI (stI (stI M l0 1 (mI M l1 (124 : Int32).toNatClampNeg)) l0 7 (mI (stI M l0 1 (mI M l1 (124 : Int32).toNatClampNeg)) l1 (125 : Int32).toNatClampNeg)) l1 (126 : Int32).toNatClampNeg)) fun M6 => ck (isK M6 l1 14) <| ck (inb (127 : Int32) (mG M6 l1)) <| ck (isK M6 l0 12) <| ck (inb (128 : Int32) (mG M6 l1)) <| nm (stI (stI M6 l0 28 (mI M6 l1 (127 : Int32).toNatClampNeg)) l0 31 (mI (stI M6 l0 28 (mI M6 l1 (127 : Int32).toNatClampNeg)) l1 (128 : Int32).toNatClampNeg)) fun M11 => ck (isK M11 l1 14) <| ck (inb (129 : Int32) (mG M11 l1)) <| ck (isK M11 l0 12) <| some ((), (stI M11 l0 15 (mI M11 l1 (129 : Int32).toNatClampNeg)))) else (ck (isK M l0 12) <| rb (mR M l0 32) fun b16 => ck (isK M l1 14) <| ck (inb ((108 : Int32) + l2) (mG M l1)) <| ck (isK M b16 14) <| ck (inb l2 (mG M b16)) <| rb (mR (stI M b16 l2.toNatClampNeg (mI M l1 ((108 : Int32) + l2).toNatClampNeg)) l0 33) fun b21 => ck (inb ((116 : Int32) + l2) (mG M l1)) <| ck (isK M b21 14) <| ck (inb l2 (mG M b21)) <| nm (stI (stI M b16 l2.toNatClampNeg (mI M l1 ((108 : Int32) + l2).toNatClampNeg)) b21 l2.toNatClampNeg (mI (stI M b16 l2.toNatClampNeg (mI M l1 ((108 : Int32) + l2).toNatClampNeg)) l1 ((116 : Int32) + l2).toNatClampNeg)) fun M25 => (gX12_again_200 n) M25 l0 l1 (l2 + (1 : Int32)))
noncomputable def gX12_again_162  : Nat → Mem → Nat → Nat → Int32 → Option (Unit × Mem)
  | 0, _, _, _, _ => none
  | n + 1, M, l0, l1, l2 => if (10 : Int32) ≤ l2 then (gX12_again_200 FU M l0 l1 (0 : Int32)) else (ck (isK M l0 12) <| rb (mR M l0 29) fun b27 => ck (isK M l1 14) <| ck (inb ((88 : Int32) + l2) (mG M l1)) <| ck (isK M b27 14) <| ck (inb l2 (mG M b27)) <| rb (mR (stI M b27 l2.toNatClampNeg (mI M l1 ((88 : Int32) + l2).toNatClampNeg)) l0 30) fun b32 => ck (inb ((98 : Int32) + l2) (mG M l1)) <| ck (isK M b32 14) <| ck (inb l2 (mG M b32)) <| nm (stI (stI M b27 l2.toNatClampNeg (mI M l1 ((88 : Int32) + l2).toNatClampNeg)) b32 l2.toNatClampNeg (mI (stI M b27 l2.toNatClampNeg (mI M l1 ((88 : Int32) + l2).toNatClampNeg)) l1 ((98 : Int32) + l2).toNatClampNeg)) fun M36 => (gX12_again_162 n) M36 l0 l1 (l2 + (1 : Int32)))
noncomputable def gX12_again_113  : Nat → Mem → Nat → Nat → Int32 → Option (Unit × Mem)
  | 0, _, _, _, _ => none
  | n + 1, M, l0, l1, l2 => if (5 : Int32) ≤ l2 then (gX12_again_162 FU M l0 l1 (0 : Int32)) else (ck (isK M l0 12) <| rb (mR M l0 25) fun b38 => ck (isK M l1 14) <| ck (inb ((73 : Int32) + l2) (mG M l1)) <| ck (isK M b38 14) <| ck (inb l2 (mG M b38)) <| rb (mR (stI M b38 l2.toNatClampNeg (mI M l1 ((73 : Int32) + l2).toNatClampNeg)) l0 26) fun b43 => ck (inb ((78 : Int32) + l2) (mG M l1)) <| ck (isK M b43 14) <| ck (inb l2 (mG M b43)) <| nm (stI (stI M b38 l2.toNatClampNeg (mI M l1 ((73 : Int32) + l2).toNatClampNeg)) b43 l2.toNatClampNeg (mI (stI M b38 l2.toNatClampNeg (mI M l1 ((73 : Int32) + l2).toNatClampNeg)) l1 ((78 : Int32) + l2).toNatClampNeg)) fun M47 => ck (isK M47 l0 12) <| rb (mR M47 l0 27) fun b49 => ck (isK M47 l1 14) <| ck (inb ((83 : Int32) + l2) (mG M47 l1)) <| ck (isK M47 b49 14) <| ck (inb l2 (mG M47 b49)) <| (gX12_again_113 n) (stI M47 b49 l2.toNatClampNeg (mI M47 l1 ((83 : Int32) + l2).toNatClampNeg)) l0 l1 (l2 + (1 : Int32)))
noncomputable def gX12_again_87  : Nat → Mem → Nat → Nat → Int32 → Option (Unit × Mem)
  | 0, _, _, _, _ => none
  | n + 1, M, l0, l1, l2 => if (24 : Int32) ≤ l2 then (gX12_again_113 FU M l0 l1 (0 : Int32)) else (ck (isK M l0 12) <| rb (mR M l0 6) fun b55 => ck (isK M l1 14) <| ck (inb ((49 : Int32) + l2) (mG M l1)) <| ck (isK M b55 14) <| ck (inb l2 (mG M b55)) <| (gX12_again_87 n) (stI M b55 l2.toNatClampNeg (mI M l1 ((49 : Int32) + l2).toNatClampNeg)) l0 l1 (l2 + (1 : Int32)))
noncomputable def gX12_again_25  : Nat → Mem → Nat → Nat → Int32 → Option (Unit × Mem)
  | 0, _, _, _, _ => none
  | n + 1, M, l0, l1, l2 => if (6 : Int32) ≤ l2 then (gX12_again_87 FU M l0 l1 (0 : Int32)) else (ck (isK M l0 12) <| rb (mR M l0 2) fun b61 => ck (isK M l1 14) <| ck (inb ((25 : Int32) + l2) (mG M l1)) <| ck (isK M b61 14) <| ck (inb l2 (mG M b61)) <| rb (mR (stI M b61 l2.toNatClampNeg (mI M l1 ((25 : Int32) + l2).toNatClampNeg)) l0 3) fun b66 => ck (inb ((31 : Int32) + l2) (mG M l1)) <| ck (isK M b66 14) <| ck (inb l2 (mG M b66)) <| nm (stI (stI M b61 l2.toNatClampNeg (mI M l1 ((25 : Int32) + l2).toNatClampNeg)) b66 l2.toNatClampNeg (mI (stI M b61 l2.toNatClampNeg (mI M l1 ((25 : Int32) + l2).toNatClampNeg)) l1 ((31 : Int32) + l2).toNatClampNeg)) fun M70 => ck (isK M70 l0 12) <| rb (mR M70 l0 4) fun b72 => ck (isK M70 l1 14) <| ck (inb ((37 : Int32) + l2) (mG M70 l1)) <| ck (isK M70 b72 14) <| ck (inb l2 (mG M70 b72)) <| rb (mR (stI M70 b72 l2.toNatClampNeg (mI M70 l1 ((37 : Int32) + l2).toNatClampNeg)) l0 5) fun b77 => ck (inb ((43 : Int32) + l2) (mG M70 l1)) <| ck (isK M70 b77 14) <| ck (inb l2 (mG M70 b77)) <| nm (stI (stI M70 b72 l2.toNatClampNeg (mI M70 l1 ((37 : Int32) + l2).toNatClampNeg)) b77 l2.toNatClampNeg (mI (stI M70 b72 l2.toNatClampNeg (mI M70 l1 ((37 : Int32) + l2).toNatClampNeg)) l1 ((43 : Int32) + l2).toNatClampNeg)) fun M81 => (gX12_again_25 n) M81 l0 l1 (l2 + (1 : Int32)))
noncomputable def gX12_again_2  : Nat → Mem → Nat → Nat → Int32 → Option (Unit × Mem)
  | 0, _, _, _, _ => none
  | n + 1, M, l0, l1, l2 => if (25 : Int32) ≤ l2 then (gX12_again_25 FU M l0 l1 (0 : Int32)) else (ck (isK M l0 12) <| rb (mR M l0 0) fun b83 => ck (isK M l1 14) <| ck (inb l2 (mG M l1)) <| ck (isK M b83 14) <| ck (inb l2 (mG M b83)) <| (gX12_again_2 n) (stI M b83 l2.toNatClampNeg (mI M l1 l2.toNatClampNeg)) l0 l1 (l2 + (1 : Int32)))
noncomputable def fX12_again (M : Mem) (a0 : Nat) (a1 : Nat) : Option (Unit × Mem) :=
  gX12_again_2 FU M a0 a1 (0 : Int32)
set_option maxRecDepth 100000 in
set_option maxHeartbeats 4000000 in
theorem gX12_again_200_s  (n : Nat) (M : Mem) (l0 : Nat) (l1 : Nat) (l2 : Int32) : gX12_again_200  (n + 1) M l0 l1 l2 = (if (8 : Int32) ≤ l2 then (ck (isK M l1 14) <| ck (inb (124 : Int32) (mG M l1)) <| ck (isK M l0 12) <| ck (inb (125 : Int32) (mG M l1)) <| ck (inb (126 : Int32) (mG M l1)) <| nm (stI (stI (stI M l0 1 (mI M l1 (124 : Int32).toNatClampNeg)) l0 7 (mI (stI M l0 1 (mI M l1 (124 : Int32).toNatClampNeg)) l1 (125 : Int32).toNatClampNeg)) l0 24 (mI (stI (stI M l0 1 (mI M l1 (124 : Int32).toNatClampNeg)) l0 7 (mI (stI M l0 1 (mI M l1 (124 : Int32).toNatClampNeg)) l1 (125 : Int32).toNatClampNeg)) l1 (126 : Int32).toNatClampNeg)) fun M6 => ck (isK M6 l1 14) <| ck (inb (127 : Int32) (mG M6 l1)) <| ck (isK M6 l0 12) <| ck (inb (128 : Int32) (mG M6 l1)) <| nm (stI (stI M6 l0 28 (mI M6 l1 (127 : Int32).toNatClampNeg)) l0 31 (mI (stI M6 l0 28 (mI M6 l1 (127 : Int32).toNatClampNeg)) l1 (128 : Int32).toNatClampNeg)) fun M11 => ck (isK M11 l1 14) <| ck (inb (129 : Int32) (mG M11 l1)) <| ck (isK M11 l0 12) <| some ((), (stI M11 l0 15 (mI M11 l1 (129 : Int32).toNatClampNeg)))) else (ck (isK M l0 12) <| rb (mR M l0 32) fun b16 => ck (isK M l1 14) <| ck (inb ((108 : Int32) + l2) (mG M l1)) <| ck (isK M b16 14) <| ck (inb l2 (mG M b16)) <| rb (mR (stI M b16 l2.toNatClampNeg (mI M l1 ((108 : Int32) + l2).toNatClampNeg)) l0 33) fun b21 => ck (inb ((116 : Int32) + l2) (mG M l1)) <| ck (isK M b21 14) <| ck (inb l2 (mG M b21)) <| nm (stI (stI M b16 l2.toNatClampNeg (mI M l1 ((108 : Int32) + l2).toNatClampNeg)) b21 l2.toNatClampNeg (mI (stI M b16 l2.toNatClampNeg (mI M l1 ((108 : Int32) + l2).toNatClampNeg)) l1 ((116 : Int32) + l2).toNatClampNeg)) fun M25 => (gX12_again_200 n) M25 l0 l1 (l2 + (1 : Int32)))) := rfl
set_option maxRecDepth 100000 in
set_option maxHeartbeats 4000000 in
theorem wX12_again_200 {z : Zx} {fx : Fx} {al : Bool} {r : Nat} {N : Mem} (hz : Zok z fx al yX12_again.cls yX12_again.name cX12_again none 3 (r + 0) 0 0 none N)    : ∀ {n : Nat} {M : Mem} {l0 : Nat} {l1 : Nat} {l2 : Int32}, gX12_again_200  n M l0 l1 l2 = some ((), N) → V z 200 [some (.ref l0), some (.ref l1), some (.int l2)] [] M 0 0 := by
  intro n
  induction n with
  | zero => intro M l0 l1 l2 h; cases h
  | succ n ih =>
    intro M l0 l1 l2 h
    replace h := (gX12_again_200_s  n M l0 l1 l2).symm.trans h
    refine v_iload_n hz rfl rfl dX12_again_200 ?_
    refine v_bipush hz (v := (8 : Int32)) (by decide) dX12_again_201 ?_
    refine v_icmp_ge (tgt := 236) hz dX12_again_203 (by decide) (fun hc => ?_) (fun hc => ?_)
    · replace h := (if_pos hc).symm.trans h
      refine v_aload_n hz rfl rfl dX12_again_236 ?_
      refine v_aload_n hz rfl rfl dX12_again_237 ?_
      refine v_bipush hz (v := (124 : Int32)) (by decide) dX12_again_238 ?_
      obtain ⟨ck1, h⟩ := ck_inv h
      obtain ⟨ka1, kb1⟩ := isK_of ck1
      obtain ⟨g2, h⟩ := ck_inv h
      refine v_iaload hz dX12_again_240 ka1 kb1 g2 ?_
      obtain ⟨ck3, h⟩ := ck_inv h
      obtain ⟨ka3, kb3⟩ := isK_of ck3
      refine v_putI hz fl_X12_105 ft_12_1 (by decide) rfl rfl rfl dX12_again_241 ka3 kb3 ?_
      refine v_aload_n hz rfl rfl dX12_again_244 ?_
      refine v_aload_n hz rfl rfl dX12_again_245 ?_
      refine v_bipush hz (v := (125 : Int32)) (by decide) dX12_again_246 ?_
      obtain ⟨g4, h⟩ := ck_inv h
      refine v_iaload hz dX12_again_248 ka1 kb1 g4 ?_
      refine v_putI hz fl_X12_208 ft_12_7 (by decide) rfl rfl rfl dX12_again_249 ka3 kb3 ?_
      refine v_aload_n hz rfl rfl dX12_again_252 ?_
      refine v_aload_n hz rfl rfl dX12_again_253 ?_
      refine v_bipush hz (v := (126 : Int32)) (by decide) dX12_again_254 ?_
      obtain ⟨g5, h⟩ := ck_inv h
      refine v_iaload hz dX12_again_256 ka1 kb1 g5 ?_
      refine v_putI hz fl_X12_273 ft_12_24 (by decide) rfl rfl rfl dX12_again_257 ka3 kb3 ?_
      obtain ⟨M6, eM6, h⟩ := nm_inv h
      refine v_mem eM6.symm ?_
      refine v_aload_n hz rfl rfl dX12_again_260 ?_
      refine v_aload_n hz rfl rfl dX12_again_261 ?_
      refine v_bipush hz (v := (127 : Int32)) (by decide) dX12_again_262 ?_
      obtain ⟨ck7, h⟩ := ck_inv h
      obtain ⟨ka7, kb7⟩ := isK_of ck7
      obtain ⟨g8, h⟩ := ck_inv h
      refine v_iaload hz dX12_again_264 ka7 kb7 g8 ?_
      obtain ⟨ck9, h⟩ := ck_inv h
      obtain ⟨ka9, kb9⟩ := isK_of ck9
      refine v_putI hz fl_X12_285 ft_12_28 (by decide) rfl rfl rfl dX12_again_265 ka9 kb9 ?_
      refine v_aload_n hz rfl rfl dX12_again_268 ?_
      refine v_aload_n hz rfl rfl dX12_again_269 ?_
      refine v_sipush hz (v := (128 : Int32)) (by decide) dX12_again_270 ?_
      obtain ⟨g10, h⟩ := ck_inv h
      refine v_iaload hz dX12_again_273 ka7 kb7 g10 ?_
      refine v_putI hz fl_X12_288 ft_12_31 (by decide) rfl rfl rfl dX12_again_274 ka9 kb9 ?_
      obtain ⟨M11, eM11, h⟩ := nm_inv h
      refine v_mem eM11.symm ?_
      refine v_aload_n hz rfl rfl dX12_again_277 ?_
      refine v_aload_n hz rfl rfl dX12_again_278 ?_
      refine v_sipush hz (v := (129 : Int32)) (by decide) dX12_again_279 ?_
      obtain ⟨ck12, h⟩ := ck_inv h
      obtain ⟨ka12, kb12⟩ := isK_of ck12
      obtain ⟨g13, h⟩ := ck_inv h
      refine v_iaload hz dX12_again_282 ka12 kb12 g13 ?_
      obtain ⟨ck14, h⟩ := ck_inv h
      obtain ⟨ka14, kb14⟩ := isK_of ck14
      refine v_putI hz fl_X12_101 ft_12_15 (by decide) rfl rfl rfl dX12_again_283 ka14 kb14 ?_
      obtain ⟨-, rfl⟩ := sp_inv h
      exact v_vret hz dX12_again_286 (by decide) (by decide)
    · replace h := (if_neg hc).symm.trans h
      refine v_aload_n hz rfl rfl dX12_again_206 ?_
      obtain ⟨ck15, h⟩ := ck_inv h
      obtain ⟨ka15, kb15⟩ := isK_of ck15
      obtain ⟨b16, r16, h⟩ := rb_inv h
      refine v_getR hz fl_X12_70 rfl dX12_again_207 ka15 kb15 r16 ?_
      refine v_iload_n hz rfl rfl dX12_again_210 ?_
      refine v_aload_n hz rfl rfl dX12_again_211 ?_
      refine v_bipush hz (v := (108 : Int32)) (by decide) dX12_again_212 ?_
      refine v_iload_n hz rfl rfl dX12_again_214 ?_
      refine v_iadd hz dX12_again_215 ?_
      obtain ⟨ck17, h⟩ := ck_inv h
      obtain ⟨ka17, kb17⟩ := isK_of ck17
      obtain ⟨g18, h⟩ := ck_inv h
      refine v_iaload hz dX12_again_216 ka17 kb17 g18 ?_
      obtain ⟨ck19, h⟩ := ck_inv h
      obtain ⟨ka19, kb19⟩ := isK_of ck19
      obtain ⟨g20, h⟩ := ck_inv h
      refine v_iastore hz dX12_again_217 ka19 kb19 g20 ?_
      refine v_aload_n hz rfl rfl dX12_again_218 ?_
      obtain ⟨b21, r21, h⟩ := rb_inv h
      refine v_getR hz fl_X12_73 rfl dX12_again_219 ka15 kb15 r21 ?_
      refine v_iload_n hz rfl rfl dX12_again_222 ?_
      refine v_aload_n hz rfl rfl dX12_again_223 ?_
      refine v_bipush hz (v := (116 : Int32)) (by decide) dX12_again_224 ?_
      refine v_iload_n hz rfl rfl dX12_again_226 ?_
      refine v_iadd hz dX12_again_227 ?_
      obtain ⟨g22, h⟩ := ck_inv h
      refine v_iaload hz dX12_again_228 ka17 kb17 g22 ?_
      obtain ⟨ck23, h⟩ := ck_inv h
      obtain ⟨ka23, kb23⟩ := isK_of ck23
      obtain ⟨g24, h⟩ := ck_inv h
      refine v_iastore hz dX12_again_229 ka23 kb23 g24 ?_
      obtain ⟨M25, eM25, h⟩ := nm_inv h
      refine v_mem eM25.symm ?_
      refine v_iinc hz (v := (l2 + (1 : Int32))) (lw := [some (.ref l0), some (.ref l1), some (.int (l2 + (1 : Int32)))]) rfl (congrArg (fun q => l2 + q) (show Int32.ofInt (1) = (1 : Int32) by decide)) rfl rfl dX12_again_230 ?_
      refine v_goto (tgt := 200) hz dX12_again_233 (by decide) ?_
      exact v_weak (lvle_s (lvle_s (lvle_s lvle_0))) (ih h)
set_option maxRecDepth 100000 in
set_option maxHeartbeats 4000000 in
theorem gX12_again_162_s  (n : Nat) (M : Mem) (l0 : Nat) (l1 : Nat) (l2 : Int32) : gX12_again_162  (n + 1) M l0 l1 l2 = (if (10 : Int32) ≤ l2 then (gX12_again_200 FU M l0 l1 (0 : Int32)) else (ck (isK M l0 12) <| rb (mR M l0 29) fun b27 => ck (isK M l1 14) <| ck (inb ((88 : Int32) + l2) (mG M l1)) <| ck (isK M b27 14) <| ck (inb l2 (mG M b27)) <| rb (mR (stI M b27 l2.toNatClampNeg (mI M l1 ((88 : Int32) + l2).toNatClampNeg)) l0 30) fun b32 => ck (inb ((98 : Int32) + l2) (mG M l1)) <| ck (isK M b32 14) <| ck (inb l2 (mG M b32)) <| nm (stI (stI M b27 l2.toNatClampNeg (mI M l1 ((88 : Int32) + l2).toNatClampNeg)) b32 l2.toNatClampNeg (mI (stI M b27 l2.toNatClampNeg (mI M l1 ((88 : Int32) + l2).toNatClampNeg)) l1 ((98 : Int32) + l2).toNatClampNeg)) fun M36 => (gX12_again_162 n) M36 l0 l1 (l2 + (1 : Int32)))) := rfl
set_option maxRecDepth 100000 in
set_option maxHeartbeats 4000000 in
theorem wX12_again_162 {z : Zx} {fx : Fx} {al : Bool} {r : Nat} {N : Mem} (hz : Zok z fx al yX12_again.cls yX12_again.name cX12_again none 3 (r + 0) 0 0 none N)    : ∀ {n : Nat} {M : Mem} {l0 : Nat} {l1 : Nat} {l2 : Int32}, gX12_again_162  n M l0 l1 l2 = some ((), N) → V z 162 [some (.ref l0), some (.ref l1), some (.int l2)] [] M 0 0 := by
  intro n
  induction n with
  | zero => intro M l0 l1 l2 h; cases h
  | succ n ih =>
    intro M l0 l1 l2 h
    replace h := (gX12_again_162_s  n M l0 l1 l2).symm.trans h
    refine v_iload_n hz rfl rfl dX12_again_162 ?_
    refine v_bipush hz (v := (10 : Int32)) (by decide) dX12_again_163 ?_
    refine v_icmp_ge (tgt := 198) hz dX12_again_165 (by decide) (fun hc => ?_) (fun hc => ?_)
    · replace h := (if_pos hc).symm.trans h
      refine v_iconst hz (v := (0 : Int32)) (by decide) dX12_again_198 ?_
      refine v_istore_n hz (lw := [some (.ref l0), some (.ref l1), some (.int (0 : Int32))]) rfl (Nat.le_of_ble_eq_true rfl) rfl rfl dX12_again_199 ?_
      exact v_weak (lvle_s (lvle_s (lvle_s lvle_0))) (wX12_again_200 hz   h)
    · replace h := (if_neg hc).symm.trans h
      refine v_aload_n hz rfl rfl dX12_again_168 ?_
      obtain ⟨ck26, h⟩ := ck_inv h
      obtain ⟨ka26, kb26⟩ := isK_of ck26
      obtain ⟨b27, r27, h⟩ := rb_inv h
      refine v_getR hz fl_X12_64 rfl dX12_again_169 ka26 kb26 r27 ?_
      refine v_iload_n hz rfl rfl dX12_again_172 ?_
      refine v_aload_n hz rfl rfl dX12_again_173 ?_
      refine v_bipush hz (v := (88 : Int32)) (by decide) dX12_again_174 ?_
      refine v_iload_n hz rfl rfl dX12_again_176 ?_
      refine v_iadd hz dX12_again_177 ?_
      obtain ⟨ck28, h⟩ := ck_inv h
      obtain ⟨ka28, kb28⟩ := isK_of ck28
      obtain ⟨g29, h⟩ := ck_inv h
      refine v_iaload hz dX12_again_178 ka28 kb28 g29 ?_
      obtain ⟨ck30, h⟩ := ck_inv h
      obtain ⟨ka30, kb30⟩ := isK_of ck30
      obtain ⟨g31, h⟩ := ck_inv h
      refine v_iastore hz dX12_again_179 ka30 kb30 g31 ?_
      refine v_aload_n hz rfl rfl dX12_again_180 ?_
      obtain ⟨b32, r32, h⟩ := rb_inv h
      refine v_getR hz fl_X12_67 rfl dX12_again_181 ka26 kb26 r32 ?_
      refine v_iload_n hz rfl rfl dX12_again_184 ?_
      refine v_aload_n hz rfl rfl dX12_again_185 ?_
      refine v_bipush hz (v := (98 : Int32)) (by decide) dX12_again_186 ?_
      refine v_iload_n hz rfl rfl dX12_again_188 ?_
      refine v_iadd hz dX12_again_189 ?_
      obtain ⟨g33, h⟩ := ck_inv h
      refine v_iaload hz dX12_again_190 ka28 kb28 g33 ?_
      obtain ⟨ck34, h⟩ := ck_inv h
      obtain ⟨ka34, kb34⟩ := isK_of ck34
      obtain ⟨g35, h⟩ := ck_inv h
      refine v_iastore hz dX12_again_191 ka34 kb34 g35 ?_
      obtain ⟨M36, eM36, h⟩ := nm_inv h
      refine v_mem eM36.symm ?_
      refine v_iinc hz (v := (l2 + (1 : Int32))) (lw := [some (.ref l0), some (.ref l1), some (.int (l2 + (1 : Int32)))]) rfl (congrArg (fun q => l2 + q) (show Int32.ofInt (1) = (1 : Int32) by decide)) rfl rfl dX12_again_192 ?_
      refine v_goto (tgt := 162) hz dX12_again_195 (by decide) ?_
      exact v_weak (lvle_s (lvle_s (lvle_s lvle_0))) (ih h)
set_option maxRecDepth 100000 in
set_option maxHeartbeats 4000000 in
theorem gX12_again_113_s  (n : Nat) (M : Mem) (l0 : Nat) (l1 : Nat) (l2 : Int32) : gX12_again_113  (n + 1) M l0 l1 l2 = (if (5 : Int32) ≤ l2 then (gX12_again_162 FU M l0 l1 (0 : Int32)) else (ck (isK M l0 12) <| rb (mR M l0 25) fun b38 => ck (isK M l1 14) <| ck (inb ((73 : Int32) + l2) (mG M l1)) <| ck (isK M b38 14) <| ck (inb l2 (mG M b38)) <| rb (mR (stI M b38 l2.toNatClampNeg (mI M l1 ((73 : Int32) + l2).toNatClampNeg)) l0 26) fun b43 => ck (inb ((78 : Int32) + l2) (mG M l1)) <| ck (isK M b43 14) <| ck (inb l2 (mG M b43)) <| nm (stI (stI M b38 l2.toNatClampNeg (mI M l1 ((73 : Int32) + l2).toNatClampNeg)) b43 l2.toNatClampNeg (mI (stI M b38 l2.toNatClampNeg (mI M l1 ((73 : Int32) + l2).toNatClampNeg)) l1 ((78 : Int32) + l2).toNatClampNeg)) fun M47 => ck (isK M47 l0 12) <| rb (mR M47 l0 27) fun b49 => ck (isK M47 l1 14) <| ck (inb ((83 : Int32) + l2) (mG M47 l1)) <| ck (isK M47 b49 14) <| ck (inb l2 (mG M47 b49)) <| (gX12_again_113 n) (stI M47 b49 l2.toNatClampNeg (mI M47 l1 ((83 : Int32) + l2).toNatClampNeg)) l0 l1 (l2 + (1 : Int32)))) := rfl
set_option maxRecDepth 100000 in
set_option maxHeartbeats 4000000 in
theorem wX12_again_113 {z : Zx} {fx : Fx} {al : Bool} {r : Nat} {N : Mem} (hz : Zok z fx al yX12_again.cls yX12_again.name cX12_again none 3 (r + 0) 0 0 none N)    : ∀ {n : Nat} {M : Mem} {l0 : Nat} {l1 : Nat} {l2 : Int32}, gX12_again_113  n M l0 l1 l2 = some ((), N) → V z 113 [some (.ref l0), some (.ref l1), some (.int l2)] [] M 0 0 := by
  intro n
  induction n with
  | zero => intro M l0 l1 l2 h; cases h
  | succ n ih =>
    intro M l0 l1 l2 h
    replace h := (gX12_again_113_s  n M l0 l1 l2).symm.trans h
    refine v_iload_n hz rfl rfl dX12_again_113 ?_
    refine v_iconst hz (v := (5 : Int32)) (by decide) dX12_again_114 ?_
    refine v_icmp_ge (tgt := 160) hz dX12_again_115 (by decide) (fun hc => ?_) (fun hc => ?_)
    · replace h := (if_pos hc).symm.trans h
      refine v_iconst hz (v := (0 : Int32)) (by decide) dX12_again_160 ?_
      refine v_istore_n hz (lw := [some (.ref l0), some (.ref l1), some (.int (0 : Int32))]) rfl (Nat.le_of_ble_eq_true rfl) rfl rfl dX12_again_161 ?_
      exact v_weak (lvle_s (lvle_s (lvle_s lvle_0))) (wX12_again_162 hz   h)
    · replace h := (if_neg hc).symm.trans h
      refine v_aload_n hz rfl rfl dX12_again_118 ?_
      obtain ⟨ck37, h⟩ := ck_inv h
      obtain ⟨ka37, kb37⟩ := isK_of ck37
      obtain ⟨b38, r38, h⟩ := rb_inv h
      refine v_getR hz fl_X12_55 rfl dX12_again_119 ka37 kb37 r38 ?_
      refine v_iload_n hz rfl rfl dX12_again_122 ?_
      refine v_aload_n hz rfl rfl dX12_again_123 ?_
      refine v_bipush hz (v := (73 : Int32)) (by decide) dX12_again_124 ?_
      refine v_iload_n hz rfl rfl dX12_again_126 ?_
      refine v_iadd hz dX12_again_127 ?_
      obtain ⟨ck39, h⟩ := ck_inv h
      obtain ⟨ka39, kb39⟩ := isK_of ck39
      obtain ⟨g40, h⟩ := ck_inv h
      refine v_iaload hz dX12_again_128 ka39 kb39 g40 ?_
      obtain ⟨ck41, h⟩ := ck_inv h
      obtain ⟨ka41, kb41⟩ := isK_of ck41
      obtain ⟨g42, h⟩ := ck_inv h
      refine v_iastore hz dX12_again_129 ka41 kb41 g42 ?_
      refine v_aload_n hz rfl rfl dX12_again_130 ?_
      obtain ⟨b43, r43, h⟩ := rb_inv h
      refine v_getR hz fl_X12_58 rfl dX12_again_131 ka37 kb37 r43 ?_
      refine v_iload_n hz rfl rfl dX12_again_134 ?_
      refine v_aload_n hz rfl rfl dX12_again_135 ?_
      refine v_bipush hz (v := (78 : Int32)) (by decide) dX12_again_136 ?_
      refine v_iload_n hz rfl rfl dX12_again_138 ?_
      refine v_iadd hz dX12_again_139 ?_
      obtain ⟨g44, h⟩ := ck_inv h
      refine v_iaload hz dX12_again_140 ka39 kb39 g44 ?_
      obtain ⟨ck45, h⟩ := ck_inv h
      obtain ⟨ka45, kb45⟩ := isK_of ck45
      obtain ⟨g46, h⟩ := ck_inv h
      refine v_iastore hz dX12_again_141 ka45 kb45 g46 ?_
      obtain ⟨M47, eM47, h⟩ := nm_inv h
      refine v_mem eM47.symm ?_
      refine v_aload_n hz rfl rfl dX12_again_142 ?_
      obtain ⟨ck48, h⟩ := ck_inv h
      obtain ⟨ka48, kb48⟩ := isK_of ck48
      obtain ⟨b49, r49, h⟩ := rb_inv h
      refine v_getR hz fl_X12_61 rfl dX12_again_143 ka48 kb48 r49 ?_
      refine v_iload_n hz rfl rfl dX12_again_146 ?_
      refine v_aload_n hz rfl rfl dX12_again_147 ?_
      refine v_bipush hz (v := (83 : Int32)) (by decide) dX12_again_148 ?_
      refine v_iload_n hz rfl rfl dX12_again_150 ?_
      refine v_iadd hz dX12_again_151 ?_
      obtain ⟨ck50, h⟩ := ck_inv h
      obtain ⟨ka50, kb50⟩ := isK_of ck50
      obtain ⟨g51, h⟩ := ck_inv h
      refine v_iaload hz dX12_again_152 ka50 kb50 g51 ?_
      obtain ⟨ck52, h⟩ := ck_inv h
      obtain ⟨ka52, kb52⟩ := isK_of ck52
      obtain ⟨g53, h⟩ := ck_inv h
      refine v_iastore hz dX12_again_153 ka52 kb52 g53 ?_
      refine v_iinc hz (v := (l2 + (1 : Int32))) (lw := [some (.ref l0), some (.ref l1), some (.int (l2 + (1 : Int32)))]) rfl (congrArg (fun q => l2 + q) (show Int32.ofInt (1) = (1 : Int32) by decide)) rfl rfl dX12_again_154 ?_
      refine v_goto (tgt := 113) hz dX12_again_157 (by decide) ?_
      exact v_weak (lvle_s (lvle_s (lvle_s lvle_0))) (ih h)
set_option maxRecDepth 100000 in
set_option maxHeartbeats 4000000 in
theorem gX12_again_87_s  (n : Nat) (M : Mem) (l0 : Nat) (l1 : Nat) (l2 : Int32) : gX12_again_87  (n + 1) M l0 l1 l2 = (if (24 : Int32) ≤ l2 then (gX12_again_113 FU M l0 l1 (0 : Int32)) else (ck (isK M l0 12) <| rb (mR M l0 6) fun b55 => ck (isK M l1 14) <| ck (inb ((49 : Int32) + l2) (mG M l1)) <| ck (isK M b55 14) <| ck (inb l2 (mG M b55)) <| (gX12_again_87 n) (stI M b55 l2.toNatClampNeg (mI M l1 ((49 : Int32) + l2).toNatClampNeg)) l0 l1 (l2 + (1 : Int32)))) := rfl
set_option maxRecDepth 100000 in
set_option maxHeartbeats 4000000 in
theorem wX12_again_87 {z : Zx} {fx : Fx} {al : Bool} {r : Nat} {N : Mem} (hz : Zok z fx al yX12_again.cls yX12_again.name cX12_again none 3 (r + 0) 0 0 none N)    : ∀ {n : Nat} {M : Mem} {l0 : Nat} {l1 : Nat} {l2 : Int32}, gX12_again_87  n M l0 l1 l2 = some ((), N) → V z 87 [some (.ref l0), some (.ref l1), some (.int l2)] [] M 0 0 := by
  intro n
  induction n with
  | zero => intro M l0 l1 l2 h; cases h
  | succ n ih =>
    intro M l0 l1 l2 h
    replace h := (gX12_again_87_s  n M l0 l1 l2).symm.trans h
    refine v_iload_n hz rfl rfl dX12_again_87 ?_
    refine v_bipush hz (v := (24 : Int32)) (by decide) dX12_again_88 ?_
    refine v_icmp_ge (tgt := 111) hz dX12_again_90 (by decide) (fun hc => ?_) (fun hc => ?_)
    · replace h := (if_pos hc).symm.trans h
      refine v_iconst hz (v := (0 : Int32)) (by decide) dX12_again_111 ?_
      refine v_istore_n hz (lw := [some (.ref l0), some (.ref l1), some (.int (0 : Int32))]) rfl (Nat.le_of_ble_eq_true rfl) rfl rfl dX12_again_112 ?_
      exact v_weak (lvle_s (lvle_s (lvle_s lvle_0))) (wX12_again_113 hz   h)
    · replace h := (if_neg hc).symm.trans h
      refine v_aload_n hz rfl rfl dX12_again_93 ?_
      obtain ⟨ck54, h⟩ := ck_inv h
      obtain ⟨ka54, kb54⟩ := isK_of ck54
      obtain ⟨b55, r55, h⟩ := rb_inv h
      refine v_getR hz fl_X12_27 rfl dX12_again_94 ka54 kb54 r55 ?_
      refine v_iload_n hz rfl rfl dX12_again_97 ?_
      refine v_aload_n hz rfl rfl dX12_again_98 ?_
      refine v_bipush hz (v := (49 : Int32)) (by decide) dX12_again_99 ?_
      refine v_iload_n hz rfl rfl dX12_again_101 ?_
      refine v_iadd hz dX12_again_102 ?_
      obtain ⟨ck56, h⟩ := ck_inv h
      obtain ⟨ka56, kb56⟩ := isK_of ck56
      obtain ⟨g57, h⟩ := ck_inv h
      refine v_iaload hz dX12_again_103 ka56 kb56 g57 ?_
      obtain ⟨ck58, h⟩ := ck_inv h
      obtain ⟨ka58, kb58⟩ := isK_of ck58
      obtain ⟨g59, h⟩ := ck_inv h
      refine v_iastore hz dX12_again_104 ka58 kb58 g59 ?_
      refine v_iinc hz (v := (l2 + (1 : Int32))) (lw := [some (.ref l0), some (.ref l1), some (.int (l2 + (1 : Int32)))]) rfl (congrArg (fun q => l2 + q) (show Int32.ofInt (1) = (1 : Int32) by decide)) rfl rfl dX12_again_105 ?_
      refine v_goto (tgt := 87) hz dX12_again_108 (by decide) ?_
      exact v_weak (lvle_s (lvle_s (lvle_s lvle_0))) (ih h)
set_option maxRecDepth 100000 in
set_option maxHeartbeats 4000000 in
theorem gX12_again_25_s  (n : Nat) (M : Mem) (l0 : Nat) (l1 : Nat) (l2 : Int32) : gX12_again_25  (n + 1) M l0 l1 l2 = (if (6 : Int32) ≤ l2 then (gX12_again_87 FU M l0 l1 (0 : Int32)) else (ck (isK M l0 12) <| rb (mR M l0 2) fun b61 => ck (isK M l1 14) <| ck (inb ((25 : Int32) + l2) (mG M l1)) <| ck (isK M b61 14) <| ck (inb l2 (mG M b61)) <| rb (mR (stI M b61 l2.toNatClampNeg (mI M l1 ((25 : Int32) + l2).toNatClampNeg)) l0 3) fun b66 => ck (inb ((31 : Int32) + l2) (mG M l1)) <| ck (isK M b66 14) <| ck (inb l2 (mG M b66)) <| nm (stI (stI M b61 l2.toNatClampNeg (mI M l1 ((25 : Int32) + l2).toNatClampNeg)) b66 l2.toNatClampNeg (mI (stI M b61 l2.toNatClampNeg (mI M l1 ((25 : Int32) + l2).toNatClampNeg)) l1 ((31 : Int32) + l2).toNatClampNeg)) fun M70 => ck (isK M70 l0 12) <| rb (mR M70 l0 4) fun b72 => ck (isK M70 l1 14) <| ck (inb ((37 : Int32) + l2) (mG M70 l1)) <| ck (isK M70 b72 14) <| ck (inb l2 (mG M70 b72)) <| rb (mR (stI M70 b72 l2.toNatClampNeg (mI M70 l1 ((37 : Int32) + l2).toNatClampNeg)) l0 5) fun b77 => ck (inb ((43 : Int32) + l2) (mG M70 l1)) <| ck (isK M70 b77 14) <| ck (inb l2 (mG M70 b77)) <| nm (stI (stI M70 b72 l2.toNatClampNeg (mI M70 l1 ((37 : Int32) + l2).toNatClampNeg)) b77 l2.toNatClampNeg (mI (stI M70 b72 l2.toNatClampNeg (mI M70 l1 ((37 : Int32) + l2).toNatClampNeg)) l1 ((43 : Int32) + l2).toNatClampNeg)) fun M81 => (gX12_again_25 n) M81 l0 l1 (l2 + (1 : Int32)))) := rfl
set_option maxRecDepth 100000 in
set_option maxHeartbeats 4000000 in
theorem wX12_again_25 {z : Zx} {fx : Fx} {al : Bool} {r : Nat} {N : Mem} (hz : Zok z fx al yX12_again.cls yX12_again.name cX12_again none 3 (r + 0) 0 0 none N)    : ∀ {n : Nat} {M : Mem} {l0 : Nat} {l1 : Nat} {l2 : Int32}, gX12_again_25  n M l0 l1 l2 = some ((), N) → V z 25 [some (.ref l0), some (.ref l1), some (.int l2)] [] M 0 0 := by
  intro n
  induction n with
  | zero => intro M l0 l1 l2 h; cases h
  | succ n ih =>
    intro M l0 l1 l2 h
    replace h := (gX12_again_25_s  n M l0 l1 l2).symm.trans h
    refine v_iload_n hz rfl rfl dX12_again_25 ?_
    refine v_bipush hz (v := (6 : Int32)) (by decide) dX12_again_26 ?_
    refine v_icmp_ge (tgt := 85) hz dX12_again_28 (by decide) (fun hc => ?_) (fun hc => ?_)
    · replace h := (if_pos hc).symm.trans h
      refine v_iconst hz (v := (0 : Int32)) (by decide) dX12_again_85 ?_
      refine v_istore_n hz (lw := [some (.ref l0), some (.ref l1), some (.int (0 : Int32))]) rfl (Nat.le_of_ble_eq_true rfl) rfl rfl dX12_again_86 ?_
      exact v_weak (lvle_s (lvle_s (lvle_s lvle_0))) (wX12_again_87 hz   h)
    · replace h := (if_neg hc).symm.trans h
      refine v_aload_n hz rfl rfl dX12_again_31 ?_
      obtain ⟨ck60, h⟩ := ck_inv h
      obtain ⟨ka60, kb60⟩ := isK_of ck60
      obtain ⟨b61, r61, h⟩ := rb_inv h
      refine v_getR hz fl_X12_15 rfl dX12_again_32 ka60 kb60 r61 ?_
      refine v_iload_n hz rfl rfl dX12_again_35 ?_
      refine v_aload_n hz rfl rfl dX12_again_36 ?_
      refine v_bipush hz (v := (25 : Int32)) (by decide) dX12_again_37 ?_
      refine v_iload_n hz rfl rfl dX12_again_39 ?_
      refine v_iadd hz dX12_again_40 ?_
      obtain ⟨ck62, h⟩ := ck_inv h
      obtain ⟨ka62, kb62⟩ := isK_of ck62
      obtain ⟨g63, h⟩ := ck_inv h
      refine v_iaload hz dX12_again_41 ka62 kb62 g63 ?_
      obtain ⟨ck64, h⟩ := ck_inv h
      obtain ⟨ka64, kb64⟩ := isK_of ck64
      obtain ⟨g65, h⟩ := ck_inv h
      refine v_iastore hz dX12_again_42 ka64 kb64 g65 ?_
      refine v_aload_n hz rfl rfl dX12_again_43 ?_
      obtain ⟨b66, r66, h⟩ := rb_inv h
      refine v_getR hz fl_X12_18 rfl dX12_again_44 ka60 kb60 r66 ?_
      refine v_iload_n hz rfl rfl dX12_again_47 ?_
      refine v_aload_n hz rfl rfl dX12_again_48 ?_
      refine v_bipush hz (v := (31 : Int32)) (by decide) dX12_again_49 ?_
      refine v_iload_n hz rfl rfl dX12_again_51 ?_
      refine v_iadd hz dX12_again_52 ?_
      obtain ⟨g67, h⟩ := ck_inv h
      refine v_iaload hz dX12_again_53 ka62 kb62 g67 ?_
      obtain ⟨ck68, h⟩ := ck_inv h
      obtain ⟨ka68, kb68⟩ := isK_of ck68
      obtain ⟨g69, h⟩ := ck_inv h
      refine v_iastore hz dX12_again_54 ka68 kb68 g69 ?_
      obtain ⟨M70, eM70, h⟩ := nm_inv h
      refine v_mem eM70.symm ?_
      refine v_aload_n hz rfl rfl dX12_again_55 ?_
      obtain ⟨ck71, h⟩ := ck_inv h
      obtain ⟨ka71, kb71⟩ := isK_of ck71
      obtain ⟨b72, r72, h⟩ := rb_inv h
      refine v_getR hz fl_X12_21 rfl dX12_again_56 ka71 kb71 r72 ?_
      refine v_iload_n hz rfl rfl dX12_again_59 ?_
      refine v_aload_n hz rfl rfl dX12_again_60 ?_
      refine v_bipush hz (v := (37 : Int32)) (by decide) dX12_again_61 ?_
      refine v_iload_n hz rfl rfl dX12_again_63 ?_
      refine v_iadd hz dX12_again_64 ?_
      obtain ⟨ck73, h⟩ := ck_inv h
      obtain ⟨ka73, kb73⟩ := isK_of ck73
      obtain ⟨g74, h⟩ := ck_inv h
      refine v_iaload hz dX12_again_65 ka73 kb73 g74 ?_
      obtain ⟨ck75, h⟩ := ck_inv h
      obtain ⟨ka75, kb75⟩ := isK_of ck75
      obtain ⟨g76, h⟩ := ck_inv h
      refine v_iastore hz dX12_again_66 ka75 kb75 g76 ?_
      refine v_aload_n hz rfl rfl dX12_again_67 ?_
      obtain ⟨b77, r77, h⟩ := rb_inv h
      refine v_getR hz fl_X12_24 rfl dX12_again_68 ka71 kb71 r77 ?_
      refine v_iload_n hz rfl rfl dX12_again_71 ?_
      refine v_aload_n hz rfl rfl dX12_again_72 ?_
      refine v_bipush hz (v := (43 : Int32)) (by decide) dX12_again_73 ?_
      refine v_iload_n hz rfl rfl dX12_again_75 ?_
      refine v_iadd hz dX12_again_76 ?_
      obtain ⟨g78, h⟩ := ck_inv h
      refine v_iaload hz dX12_again_77 ka73 kb73 g78 ?_
      obtain ⟨ck79, h⟩ := ck_inv h
      obtain ⟨ka79, kb79⟩ := isK_of ck79
      obtain ⟨g80, h⟩ := ck_inv h
      refine v_iastore hz dX12_again_78 ka79 kb79 g80 ?_
      obtain ⟨M81, eM81, h⟩ := nm_inv h
      refine v_mem eM81.symm ?_
      refine v_iinc hz (v := (l2 + (1 : Int32))) (lw := [some (.ref l0), some (.ref l1), some (.int (l2 + (1 : Int32)))]) rfl (congrArg (fun q => l2 + q) (show Int32.ofInt (1) = (1 : Int32) by decide)) rfl rfl dX12_again_79 ?_
      refine v_goto (tgt := 25) hz dX12_again_82 (by decide) ?_
      exact v_weak (lvle_s (lvle_s (lvle_s lvle_0))) (ih h)
set_option maxRecDepth 100000 in
set_option maxHeartbeats 4000000 in
theorem gX12_again_2_s  (n : Nat) (M : Mem) (l0 : Nat) (l1 : Nat) (l2 : Int32) : gX12_again_2  (n + 1) M l0 l1 l2 = (if (25 : Int32) ≤ l2 then (gX12_again_25 FU M l0 l1 (0 : Int32)) else (ck (isK M l0 12) <| rb (mR M l0 0) fun b83 => ck (isK M l1 14) <| ck (inb l2 (mG M l1)) <| ck (isK M b83 14) <| ck (inb l2 (mG M b83)) <| (gX12_again_2 n) (stI M b83 l2.toNatClampNeg (mI M l1 l2.toNatClampNeg)) l0 l1 (l2 + (1 : Int32)))) := rfl
set_option maxRecDepth 100000 in
set_option maxHeartbeats 4000000 in
theorem wX12_again_2 {z : Zx} {fx : Fx} {al : Bool} {r : Nat} {N : Mem} (hz : Zok z fx al yX12_again.cls yX12_again.name cX12_again none 3 (r + 0) 0 0 none N)    : ∀ {n : Nat} {M : Mem} {l0 : Nat} {l1 : Nat} {l2 : Int32}, gX12_again_2  n M l0 l1 l2 = some ((), N) → V z 2 [some (.ref l0), some (.ref l1), some (.int l2)] [] M 0 0 := by
  intro n
  induction n with
  | zero => intro M l0 l1 l2 h; cases h
  | succ n ih =>
    intro M l0 l1 l2 h
    replace h := (gX12_again_2_s  n M l0 l1 l2).symm.trans h
    refine v_iload_n hz rfl rfl dX12_again_2 ?_
    refine v_bipush hz (v := (25 : Int32)) (by decide) dX12_again_3 ?_
    refine v_icmp_ge (tgt := 23) hz dX12_again_5 (by decide) (fun hc => ?_) (fun hc => ?_)
    · replace h := (if_pos hc).symm.trans h
      refine v_iconst hz (v := (0 : Int32)) (by decide) dX12_again_23 ?_
      refine v_istore_n hz (lw := [some (.ref l0), some (.ref l1), some (.int (0 : Int32))]) rfl (Nat.le_of_ble_eq_true rfl) rfl rfl dX12_again_24 ?_
      exact v_weak (lvle_s (lvle_s (lvle_s lvle_0))) (wX12_again_25 hz   h)
    · replace h := (if_neg hc).symm.trans h
      refine v_aload_n hz rfl rfl dX12_again_8 ?_
      obtain ⟨ck82, h⟩ := ck_inv h
      obtain ⟨ka82, kb82⟩ := isK_of ck82
      obtain ⟨b83, r83, h⟩ := rb_inv h
      refine v_getR hz fl_X12_9 rfl dX12_again_9 ka82 kb82 r83 ?_
      refine v_iload_n hz rfl rfl dX12_again_12 ?_
      refine v_aload_n hz rfl rfl dX12_again_13 ?_
      refine v_iload_n hz rfl rfl dX12_again_14 ?_
      obtain ⟨ck84, h⟩ := ck_inv h
      obtain ⟨ka84, kb84⟩ := isK_of ck84
      obtain ⟨g85, h⟩ := ck_inv h
      refine v_iaload hz dX12_again_15 ka84 kb84 g85 ?_
      obtain ⟨ck86, h⟩ := ck_inv h
      obtain ⟨ka86, kb86⟩ := isK_of ck86
      obtain ⟨g87, h⟩ := ck_inv h
      refine v_iastore hz dX12_again_16 ka86 kb86 g87 ?_
      refine v_iinc hz (v := (l2 + (1 : Int32))) (lw := [some (.ref l0), some (.ref l1), some (.int (l2 + (1 : Int32)))]) rfl (congrArg (fun q => l2 + q) (show Int32.ofInt (1) = (1 : Int32) by decide)) rfl rfl dX12_again_17 ?_
      refine v_goto (tgt := 2) hz dX12_again_20 (by decide) ?_
      exact v_weak (lvle_s (lvle_s (lvle_s lvle_0))) (ih h)
set_option maxRecDepth 100000 in
set_option maxHeartbeats 4000000 in
theorem tX12_again (r : Nat) {fx : Fx} {al : Bool} {M N : Mem} {a0 : Nat} {a1 : Nat}  (h : fX12_again M a0 a1 = some ((), N)) : Ct fx yX12_again cX12_again 3 none (r + 0) 0 0 al [.ref a0, .ref a1] M none N := by
  refine ct_of (lv := [some (.ref a0), some (.ref a1), none]) (by decide) (Nat.le_of_ble_eq_true rfl) rfl rfl (fun z hz => ?_)
  unfold fX12_again at h
  refine v_iconst hz (v := (0 : Int32)) (by decide) dX12_again_0 ?_
  refine v_istore_n hz (lw := [some (.ref a0), some (.ref a1), some (.int (0 : Int32))]) rfl (Nat.le_of_ble_eq_true rfl) rfl rfl dX12_again_1 ?_
  exact v_weak (lvle_s (lvle_s (lvle_s lvle_0))) (wX12_again_2 hz   h)
noncomputable def gX12_on_103  (M : Mem) (l0 : Nat) (s0 : Int32) : Option (Int32 × Mem) :=
  ck (isK M l0 12) <| rb (mR M l0 38) fun b10 => bd (fX12_again M l0 b10) fun x11 M11 => some (s0, M11)
noncomputable def gX12_on_50  : Nat → Mem → Nat → Int32 → Int32 → Int32 → Option (Int32 × Mem)
  | 0, _, _, _, _, _ => none
  | n + 1, M, l0, l1, l2, l3 => if l1 ≤ l3 then (if l2 = 0 then (ck (isK M l0 12) <| bd (fX12_balds M l0) fun x17 M17 => gX12_on_103 M17 l0 x17) else (if (40 : Int32) ≤ l2 then (ck (isK M l0 12) <| rb (mR M l0 4) fun b6 => ck (isK M b6 14) <| ck (inb (l2 - (40 : Int32)) (mG M b6)) <| gX12_on_103 M l0 (mI M b6 (l2 - (40 : Int32)).toNatClampNeg)) else (ck (isK M l0 12) <| rb (mR M l0 0) fun b13 => ck (isK M b13 14) <| ck (inb (l2 - (10 : Int32)) (mG M b13)) <| gX12_on_103 M l0 (mI M b13 (l2 - (10 : Int32)).toNatClampNeg)))) else (ck (isK M l0 12) <| bd (fX12_goesHour M l0) fun x19 M19 => (gX12_on_50 n) M19 l0 l1 l2 (l3 + (1 : Int32)))
noncomputable def gX12_on_27  (M : Mem) (l0 : Nat) (l1 : Int32) (l2 : Int32) : Option (Int32 × Mem) :=
  bd (fX12_within M l1 (0 : Int32) (40 : Int32)) fun x1 M1 => if x1 = 0 then (some ((-2 : Int32), M1)) else (ck (isK M1 l0 12) <| rb (mR M1 l0 38) fun b3 => bd (fX12_keep M1 l0 b3) fun x4 M4 => gX12_on_50 FU M4 l0 l1 l2 (0 : Int32))
noncomputable def fX12_on (M : Mem) (a0 : Nat) (a1 : Int32) (a2 : Int32) : Option (Int32 × Mem) :=
  if a2 = 0 then (gX12_on_27 M a0 a1 a2) else (bd (fX12_isCell M (a2 - (10 : Int32))) fun x20 M20 => if x20 = 0 then (ck (isK M20 a0 12) <| bd (fX12_isOne M20 a0 (a2 - (40 : Int32))) fun x22 M22 => if x22 = 0 then (some ((-1 : Int32), M22)) else (gX12_on_27 M22 a0 a1 a2)) else (gX12_on_27 M20 a0 a1 a2))
set_option maxRecDepth 100000 in
set_option maxHeartbeats 4000000 in
theorem wX12_on_103 {z : Zx} {fx : Fx} {al : Bool} {r : Nat} {N : Mem} {xr : Int32} (hz : Zok z fx al yX12_on.cls yX12_on.name cX12_on (some .int) 4 (r + 6) 0 0 (some (.int xr)) N)    {M : Mem} {l0 : Nat} {s0 : Int32} (h : gX12_on_103  M l0 s0 = some (xr, N)) : V z 103 [some (.ref l0), none, none, none] [.int s0] M 0 0 := by
  unfold gX12_on_103 at h
  refine v_istore_n hz (lw := [some (.ref l0), none, none, some (.int s0)]) rfl (Nat.le_of_ble_eq_true rfl) rfl rfl dX12_on_103 ?_
  refine v_aload_n hz rfl rfl dX12_on_104 ?_
  refine v_aload_n hz rfl rfl dX12_on_105 ?_
  obtain ⟨ck9, h⟩ := ck_inv h
  obtain ⟨ka9, kb9⟩ := isK_of ck9
  obtain ⟨b10, r10, h⟩ := rb_inv h
  refine v_getR hz fl_X12_82 rfl dX12_on_106 ka9 kb9 r10 ?_
  obtain ⟨x11, M11, e11, h⟩ := bd_inv h
  refine v_callV hz (As := [.ref b10]) vl_X12_257 (tX12_again (r + 5) e11) rfl (by decide) ka9 kb9 rfl rfl rfl (Nat.le_of_ble_eq_true rfl) ⟨by decide, by decide⟩ dX12_on_109 ?_
  show V z 112 [some (.ref l0), none, none, some (.int s0)] [] M11 0 0
  refine v_iload_n hz rfl rfl dX12_on_112 ?_
  obtain ⟨rfl, rfl⟩ := sp_inv h
  exact v_iret hz dX12_on_113 (by decide) (by decide)
set_option maxRecDepth 100000 in
set_option maxHeartbeats 4000000 in
theorem gX12_on_50_s  (n : Nat) (M : Mem) (l0 : Nat) (l1 : Int32) (l2 : Int32) (l3 : Int32) : gX12_on_50  (n + 1) M l0 l1 l2 l3 = (if l1 ≤ l3 then (if l2 = 0 then (ck (isK M l0 12) <| bd (fX12_balds M l0) fun x17 M17 => gX12_on_103 M17 l0 x17) else (if (40 : Int32) ≤ l2 then (ck (isK M l0 12) <| rb (mR M l0 4) fun b6 => ck (isK M b6 14) <| ck (inb (l2 - (40 : Int32)) (mG M b6)) <| gX12_on_103 M l0 (mI M b6 (l2 - (40 : Int32)).toNatClampNeg)) else (ck (isK M l0 12) <| rb (mR M l0 0) fun b13 => ck (isK M b13 14) <| ck (inb (l2 - (10 : Int32)) (mG M b13)) <| gX12_on_103 M l0 (mI M b13 (l2 - (10 : Int32)).toNatClampNeg)))) else (ck (isK M l0 12) <| bd (fX12_goesHour M l0) fun x19 M19 => (gX12_on_50 n) M19 l0 l1 l2 (l3 + (1 : Int32)))) := rfl
set_option maxRecDepth 100000 in
set_option maxHeartbeats 4000000 in
theorem wX12_on_50 {z : Zx} {fx : Fx} {al : Bool} {r : Nat} {N : Mem} {xr : Int32} (hz : Zok z fx al yX12_on.cls yX12_on.name cX12_on (some .int) 4 (r + 6) 0 0 (some (.int xr)) N)    : ∀ {n : Nat} {M : Mem} {l0 : Nat} {l1 : Int32} {l2 : Int32} {l3 : Int32}, gX12_on_50  n M l0 l1 l2 l3 = some (xr, N) → V z 50 [some (.ref l0), some (.int l1), some (.int l2), some (.int l3)] [] M 0 0 := by
  intro n
  induction n with
  | zero => intro M l0 l1 l2 l3 h; cases h
  | succ n ih =>
    intro M l0 l1 l2 l3 h
    replace h := (gX12_on_50_s  n M l0 l1 l2 l3).symm.trans h
    refine v_iload_n hz rfl rfl dX12_on_50 ?_
    refine v_iload_n hz rfl rfl dX12_on_51 ?_
    refine v_icmp_ge (tgt := 65) hz dX12_on_52 (by decide) (fun hc => ?_) (fun hc => ?_)
    · replace h := (if_pos hc).symm.trans h
      refine v_iload_n hz rfl rfl dX12_on_65 ?_
      refine v_if_ne (tgt := 76) hz dX12_on_66 (by decide) (fun hc => ?_) (fun hc => ?_)
      · replace h := (if_neg hc).symm.trans h
        refine v_iload_n hz rfl rfl dX12_on_76 ?_
        refine v_bipush hz (v := (40 : Int32)) (by decide) dX12_on_77 ?_
        refine v_icmp_ge (tgt := 94) hz dX12_on_79 (by decide) (fun hc => ?_) (fun hc => ?_)
        · replace h := (if_pos hc).symm.trans h
          refine v_aload_n hz rfl rfl dX12_on_94 ?_
          obtain ⟨ck5, h⟩ := ck_inv h
          obtain ⟨ka5, kb5⟩ := isK_of ck5
          obtain ⟨b6, r6, h⟩ := rb_inv h
          refine v_getR hz fl_X12_21 rfl dX12_on_95 ka5 kb5 r6 ?_
          refine v_iload_n hz rfl rfl dX12_on_98 ?_
          refine v_bipush hz (v := (40 : Int32)) (by decide) dX12_on_99 ?_
          refine v_isub hz dX12_on_101 ?_
          obtain ⟨ck7, h⟩ := ck_inv h
          obtain ⟨ka7, kb7⟩ := isK_of ck7
          obtain ⟨g8, h⟩ := ck_inv h
          refine v_iaload hz dX12_on_102 ka7 kb7 g8 ?_
          exact v_weak (lvle_s (lvle_n (lvle_n (lvle_n lvle_0)))) (wX12_on_103 hz   h)
        · replace h := (if_neg hc).symm.trans h
          refine v_aload_n hz rfl rfl dX12_on_82 ?_
          obtain ⟨ck12, h⟩ := ck_inv h
          obtain ⟨ka12, kb12⟩ := isK_of ck12
          obtain ⟨b13, r13, h⟩ := rb_inv h
          refine v_getR hz fl_X12_9 rfl dX12_on_83 ka12 kb12 r13 ?_
          refine v_iload_n hz rfl rfl dX12_on_86 ?_
          refine v_bipush hz (v := (10 : Int32)) (by decide) dX12_on_87 ?_
          refine v_isub hz dX12_on_89 ?_
          obtain ⟨ck14, h⟩ := ck_inv h
          obtain ⟨ka14, kb14⟩ := isK_of ck14
          obtain ⟨g15, h⟩ := ck_inv h
          refine v_iaload hz dX12_on_90 ka14 kb14 g15 ?_
          refine v_goto (tgt := 103) hz dX12_on_91 (by decide) ?_
          exact v_weak (lvle_s (lvle_n (lvle_n (lvle_n lvle_0)))) (wX12_on_103 hz   h)
      · replace h := (if_pos hc).symm.trans h
        refine v_aload_n hz rfl rfl dX12_on_69 ?_
        obtain ⟨ck16, h⟩ := ck_inv h
        obtain ⟨ka16, kb16⟩ := isK_of ck16
        obtain ⟨x17, M17, e17, h⟩ := bd_inv h
        refine v_callV hz (As := []) vl_X12_241 (tX12_balds (r + 3) e17) rfl (by decide) ka16 kb16 rfl rfl rfl (Nat.le_of_ble_eq_true rfl) ⟨by decide, by decide⟩ dX12_on_70 ?_
        show V z 73 [some (.ref l0), some (.int l1), some (.int l2), some (.int l3)] [.int x17] M17 0 0
        refine v_goto (tgt := 103) hz dX12_on_73 (by decide) ?_
        exact v_weak (lvle_s (lvle_n (lvle_n (lvle_n lvle_0)))) (wX12_on_103 hz   h)
    · replace h := (if_neg hc).symm.trans h
      refine v_aload_n hz rfl rfl dX12_on_55 ?_
      obtain ⟨ck18, h⟩ := ck_inv h
      obtain ⟨ka18, kb18⟩ := isK_of ck18
      obtain ⟨x19, M19, e19, h⟩ := bd_inv h
      refine v_callV hz (As := []) vl_X12_250 (tX12_goesHour (r + 0) e19) rfl (by decide) ka18 kb18 rfl rfl rfl (Nat.le_of_ble_eq_true rfl) ⟨by decide, by decide⟩ dX12_on_56 ?_
      show V z 59 [some (.ref l0), some (.int l1), some (.int l2), some (.int l3)] [] M19 0 0
      refine v_iinc hz (v := (l3 + (1 : Int32))) (lw := [some (.ref l0), some (.int l1), some (.int l2), some (.int (l3 + (1 : Int32)))]) rfl (congrArg (fun q => l3 + q) (show Int32.ofInt (1) = (1 : Int32) by decide)) rfl rfl dX12_on_59 ?_
      refine v_goto (tgt := 50) hz dX12_on_62 (by decide) ?_
      exact v_weak (lvle_s (lvle_s (lvle_s (lvle_s lvle_0)))) (ih h)
set_option maxRecDepth 100000 in
set_option maxHeartbeats 4000000 in
theorem wX12_on_27 {z : Zx} {fx : Fx} {al : Bool} {r : Nat} {N : Mem} {xr : Int32} (hz : Zok z fx al yX12_on.cls yX12_on.name cX12_on (some .int) 4 (r + 6) 0 0 (some (.int xr)) N)    {M : Mem} {l0 : Nat} {l1 : Int32} {l2 : Int32} (h : gX12_on_27  M l0 l1 l2 = some (xr, N)) : V z 27 [some (.ref l0), some (.int l1), some (.int l2), none] [] M 0 0 := by
  unfold gX12_on_27 at h
  refine v_iload_n hz rfl rfl dX12_on_27 ?_
  refine v_iconst hz (v := (0 : Int32)) (by decide) dX12_on_28 ?_
  refine v_bipush hz (v := (40 : Int32)) (by decide) dX12_on_29 ?_
  obtain ⟨x1, M1, e1, h⟩ := bd_inv h
  refine v_callS hz (As := [.int l1, .int (0 : Int32), .int (40 : Int32)]) sl_X12_108 (tX12_within (r + 5) e1) rfl rfl rfl (Nat.le_of_ble_eq_true rfl) ⟨by decide, by decide⟩ dX12_on_31 ?_
  show V z 34 [some (.ref l0), some (.int l1), some (.int l2), none] [.int x1] M1 0 0
  refine v_if_ne (tgt := 40) hz dX12_on_34 (by decide) (fun hc => ?_) (fun hc => ?_)
  · replace h := (if_neg hc).symm.trans h
    refine v_aload_n hz rfl rfl dX12_on_40 ?_
    refine v_aload_n hz rfl rfl dX12_on_41 ?_
    obtain ⟨ck2, h⟩ := ck_inv h
    obtain ⟨ka2, kb2⟩ := isK_of ck2
    obtain ⟨b3, r3, h⟩ := rb_inv h
    refine v_getR hz fl_X12_82 rfl dX12_on_42 ka2 kb2 r3 ?_
    obtain ⟨x4, M4, e4, h⟩ := bd_inv h
    refine v_callV hz (As := [.ref b3]) vl_X12_253 (tX12_keep (r + 5) e4) rfl (by decide) ka2 kb2 rfl rfl rfl (Nat.le_of_ble_eq_true rfl) ⟨by decide, by decide⟩ dX12_on_45 ?_
    show V z 48 [some (.ref l0), some (.int l1), some (.int l2), none] [] M4 0 0
    refine v_iconst hz (v := (0 : Int32)) (by decide) dX12_on_48 ?_
    refine v_istore_n hz (lw := [some (.ref l0), some (.int l1), some (.int l2), some (.int (0 : Int32))]) rfl (Nat.le_of_ble_eq_true rfl) rfl rfl dX12_on_49 ?_
    exact v_weak (lvle_s (lvle_s (lvle_s (lvle_s lvle_0)))) (wX12_on_50 hz   h)
  · replace h := (if_pos hc).symm.trans h
    refine v_bipush hz (v := (-2 : Int32)) (by decide) dX12_on_37 ?_
    obtain ⟨rfl, rfl⟩ := sp_inv h
    exact v_iret hz dX12_on_39 (by decide) (by decide)
set_option maxRecDepth 100000 in
set_option maxHeartbeats 4000000 in
theorem tX12_on (r : Nat) {fx : Fx} {al : Bool} {M N : Mem} {a0 : Nat} {a1 : Int32} {a2 : Int32} {xr : Int32}  (h : fX12_on M a0 a1 a2 = some (xr, N)) : Ct fx yX12_on cX12_on 4 (some .int) (r + 6) 0 0 al [.ref a0, .int a1, .int a2] M (some (.int xr)) N := by
  refine ct_of (lv := [some (.ref a0), some (.int a1), some (.int a2), none]) (by decide) (Nat.le_of_ble_eq_true rfl) rfl rfl (fun z hz => ?_)
  unfold fX12_on at h
  refine v_iload_n hz rfl rfl dX12_on_0 ?_
  refine v_if_eq (tgt := 27) hz dX12_on_1 (by decide) (fun hc => ?_) (fun hc => ?_)
  · replace h := (if_pos hc).symm.trans h
    exact v_weak (lvle_s (lvle_s (lvle_s (lvle_n lvle_0)))) (wX12_on_27 hz   h)
  · replace h := (if_neg hc).symm.trans h
    refine v_iload_n hz rfl rfl dX12_on_4 ?_
    refine v_bipush hz (v := (10 : Int32)) (by decide) dX12_on_5 ?_
    refine v_isub hz dX12_on_7 ?_
    obtain ⟨x20, M20, e20, h⟩ := bd_inv h
    refine v_callS hz (As := [.int (a2 - (10 : Int32))]) sl_X12_112 (tX12_isCell (r + 4) e20) rfl rfl rfl (Nat.le_of_ble_eq_true rfl) ⟨by decide, by decide⟩ dX12_on_8 ?_
    show V z 11 [some (.ref a0), some (.int a1), some (.int a2), none] [.int x20] M20 0 0
    refine v_if_ne (tgt := 27) hz dX12_on_11 (by decide) (fun hc => ?_) (fun hc => ?_)
    · replace h := (if_neg hc).symm.trans h
      exact v_weak (lvle_s (lvle_s (lvle_s (lvle_n lvle_0)))) (wX12_on_27 hz   h)
    · replace h := (if_pos hc).symm.trans h
      refine v_aload_n hz rfl rfl dX12_on_14 ?_
      refine v_iload_n hz rfl rfl dX12_on_15 ?_
      refine v_bipush hz (v := (40 : Int32)) (by decide) dX12_on_16 ?_
      refine v_isub hz dX12_on_18 ?_
      obtain ⟨ck21, h⟩ := ck_inv h
      obtain ⟨ka21, kb21⟩ := isK_of ck21
      obtain ⟨x22, M22, e22, h⟩ := bd_inv h
      refine v_callV hz (As := [.int (a2 - (40 : Int32))]) vl_X12_116 (tX12_isOne (r + 4) e22) rfl (by decide) ka21 kb21 rfl rfl rfl (Nat.le_of_ble_eq_true rfl) ⟨by decide, by decide⟩ dX12_on_19 ?_
      show V z 22 [some (.ref a0), some (.int a1), some (.int a2), none] [.int x22] M22 0 0
      refine v_if_ne (tgt := 27) hz dX12_on_22 (by decide) (fun hc => ?_) (fun hc => ?_)
      · replace h := (if_neg hc).symm.trans h
        exact v_weak (lvle_s (lvle_s (lvle_s (lvle_n lvle_0)))) (wX12_on_27 hz   h)
      · replace h := (if_pos hc).symm.trans h
        refine v_iconst hz (v := (-1 : Int32)) (by decide) dX12_on_25 ?_
        obtain ⟨rfl, rfl⟩ := sp_inv h
        exact v_iret hz dX12_on_26 (by decide) (by decide)
noncomputable def gX12_gets_55  (M : Mem) (l0 : Nat) (l3 : Int32) : Option (Int32 × Mem) :=
  ck (isK M l0 12) <| rb (mR M l0 38) fun b5 => bd (fX12_again M l0 b5) fun x6 M6 => some (l3, M6)
noncomputable def gX12_gets_49 (K14 : Mem → Nat → Int32 → Int32 → Int32 → Int32 → Option (Int32 × Mem)) (M : Mem) (l0 : Nat) (l1 : Int32) (l2 : Int32) (l3 : Int32) (l4 : Int32) : Option (Int32 × Mem) :=
  K14 M l0 l1 l2 l3 (l4 + (1 : Int32))
noncomputable def gX12_gets_36 (K14 : Mem → Nat → Int32 → Int32 → Int32 → Int32 → Option (Int32 × Mem)) (M : Mem) (l0 : Nat) (l1 : Int32) (l2 : Int32) (l3 : Int32) (l4 : Int32) : Option (Int32 × Mem) :=
  ck (isK M l0 12) <| rb (mR M l0 4) fun b8 => ck (isK M b8 14) <| ck (inb l1 (mG M b8)) <| if (mI M b8 l1.toNatClampNeg) = l2 then (gX12_gets_49 K14 M l0 l1 l2 l4 l4) else (gX12_gets_49 K14 M l0 l1 l2 l3 l4)
noncomputable def gX12_gets_14  : Nat → Mem → Nat → Int32 → Int32 → Int32 → Int32 → Option (Int32 × Mem)
  | 0, _, _, _, _, _, _ => none
  | n + 1, M, l0, l1, l2, l3, l4 => if (41 : Int32) ≤ l4 then (gX12_gets_55 M l0 l3) else (if l3 = (-5 : Int32) then (if l4 ≤ 0 then (gX12_gets_36 (gX12_gets_14 n) M l0 l1 l2 l3 l4) else (ck (isK M l0 12) <| bd (fX12_goesHour M l0) fun x12 M12 => gX12_gets_36 (gX12_gets_14 n) M12 l0 l1 l2 l3 l4)) else (gX12_gets_55 M l0 l3))
noncomputable def fX12_gets (M : Mem) (a0 : Nat) (a1 : Int32) (a2 : Int32) : Option (Int32 × Mem) :=
  ck (isK M a0 12) <| rb (mR M a0 38) fun b2 => bd (fX12_keep M a0 b2) fun x3 M3 => gX12_gets_14 FU M3 a0 a1 a2 (-5 : Int32) (0 : Int32)
set_option maxRecDepth 100000 in
set_option maxHeartbeats 4000000 in
theorem wX12_gets_55 {z : Zx} {fx : Fx} {al : Bool} {r : Nat} {N : Mem} {xr : Int32} (hz : Zok z fx al yX12_gets.cls yX12_gets.name cX12_gets (some .int) 5 (r + 6) 0 0 (some (.int xr)) N)    {M : Mem} {l0 : Nat} {l3 : Int32} (h : gX12_gets_55  M l0 l3 = some (xr, N)) : V z 55 [some (.ref l0), none, none, some (.int l3), none] [] M 0 0 := by
  unfold gX12_gets_55 at h
  refine v_aload_n hz rfl rfl dX12_gets_55 ?_
  refine v_aload_n hz rfl rfl dX12_gets_56 ?_
  obtain ⟨ck4, h⟩ := ck_inv h
  obtain ⟨ka4, kb4⟩ := isK_of ck4
  obtain ⟨b5, r5, h⟩ := rb_inv h
  refine v_getR hz fl_X12_82 rfl dX12_gets_57 ka4 kb4 r5 ?_
  obtain ⟨x6, M6, e6, h⟩ := bd_inv h
  refine v_callV hz (As := [.ref b5]) vl_X12_257 (tX12_again (r + 5) e6) rfl (by decide) ka4 kb4 rfl rfl rfl (Nat.le_of_ble_eq_true rfl) ⟨by decide, by decide⟩ dX12_gets_60 ?_
  show V z 63 [some (.ref l0), none, none, some (.int l3), none] [] M6 0 0
  refine v_iload_n hz rfl rfl dX12_gets_63 ?_
  obtain ⟨rfl, rfl⟩ := sp_inv h
  exact v_iret hz dX12_gets_64 (by decide) (by decide)
set_option maxRecDepth 100000 in
set_option maxHeartbeats 4000000 in
theorem wX12_gets_49 {z : Zx} {fx : Fx} {al : Bool} {r : Nat} {N : Mem} {xr : Int32} (hz : Zok z fx al yX12_gets.cls yX12_gets.name cX12_gets (some .int) 5 (r + 6) 0 0 (some (.int xr)) N)  {K14 : Mem → Nat → Int32 → Int32 → Int32 → Int32 → Option (Int32 × Mem)} (hK14 : ∀ {M : Mem} {l0 : Nat} {l1 : Int32} {l2 : Int32} {l3 : Int32} {l4 : Int32}, K14 M l0 l1 l2 l3 l4 = some (xr, N) → V z 14 [some (.ref l0), some (.int l1), some (.int l2), some (.int l3), some (.int l4)] [] M 0 0) {M : Mem} {l0 : Nat} {l1 : Int32} {l2 : Int32} {l3 : Int32} {l4 : Int32} (h : gX12_gets_49 K14 M l0 l1 l2 l3 l4 = some (xr, N)) : V z 49 [some (.ref l0), some (.int l1), some (.int l2), some (.int l3), some (.int l4)] [] M 0 0 := by
  unfold gX12_gets_49 at h
  refine v_iinc hz (v := (l4 + (1 : Int32))) (lw := [some (.ref l0), some (.int l1), some (.int l2), some (.int l3), some (.int (l4 + (1 : Int32)))]) rfl (congrArg (fun q => l4 + q) (show Int32.ofInt (1) = (1 : Int32) by decide)) rfl rfl dX12_gets_49 ?_
  refine v_goto (tgt := 14) hz dX12_gets_52 (by decide) ?_
  exact v_weak (lvle_s (lvle_s (lvle_s (lvle_s (lvle_s lvle_0))))) (hK14 h)
set_option maxRecDepth 100000 in
set_option maxHeartbeats 4000000 in
theorem wX12_gets_36 {z : Zx} {fx : Fx} {al : Bool} {r : Nat} {N : Mem} {xr : Int32} (hz : Zok z fx al yX12_gets.cls yX12_gets.name cX12_gets (some .int) 5 (r + 6) 0 0 (some (.int xr)) N)  {K14 : Mem → Nat → Int32 → Int32 → Int32 → Int32 → Option (Int32 × Mem)} (hK14 : ∀ {M : Mem} {l0 : Nat} {l1 : Int32} {l2 : Int32} {l3 : Int32} {l4 : Int32}, K14 M l0 l1 l2 l3 l4 = some (xr, N) → V z 14 [some (.ref l0), some (.int l1), some (.int l2), some (.int l3), some (.int l4)] [] M 0 0) {M : Mem} {l0 : Nat} {l1 : Int32} {l2 : Int32} {l3 : Int32} {l4 : Int32} (h : gX12_gets_36 K14 M l0 l1 l2 l3 l4 = some (xr, N)) : V z 36 [some (.ref l0), some (.int l1), some (.int l2), some (.int l3), some (.int l4)] [] M 0 0 := by
  unfold gX12_gets_36 at h
  refine v_aload_n hz rfl rfl dX12_gets_36 ?_
  obtain ⟨ck7, h⟩ := ck_inv h
  obtain ⟨ka7, kb7⟩ := isK_of ck7
  obtain ⟨b8, r8, h⟩ := rb_inv h
  refine v_getR hz fl_X12_21 rfl dX12_gets_37 ka7 kb7 r8 ?_
  refine v_iload_n hz rfl rfl dX12_gets_40 ?_
  obtain ⟨ck9, h⟩ := ck_inv h
  obtain ⟨ka9, kb9⟩ := isK_of ck9
  obtain ⟨g10, h⟩ := ck_inv h
  refine v_iaload hz dX12_gets_41 ka9 kb9 g10 ?_
  refine v_iload_n hz rfl rfl dX12_gets_42 ?_
  refine v_icmp_ne (tgt := 49) hz dX12_gets_43 (by decide) (fun hc => ?_) (fun hc => ?_)
  · replace h := (if_neg hc).symm.trans h
    exact v_weak (lvle_s (lvle_s (lvle_s (lvle_s (lvle_s lvle_0))))) (wX12_gets_49 hz  (fun h => hK14 h) h)
  · replace h := (if_pos hc).symm.trans h
    refine v_iload hz rfl dX12_gets_46 ?_
    refine v_istore_n hz (lw := [some (.ref l0), some (.int l1), some (.int l2), some (.int l4), some (.int l4)]) rfl (Nat.le_of_ble_eq_true rfl) rfl rfl dX12_gets_48 ?_
    exact v_weak (lvle_s (lvle_s (lvle_s (lvle_s (lvle_s lvle_0))))) (wX12_gets_49 hz  (fun h => hK14 h) h)
set_option maxRecDepth 100000 in
set_option maxHeartbeats 4000000 in
theorem gX12_gets_14_s  (n : Nat) (M : Mem) (l0 : Nat) (l1 : Int32) (l2 : Int32) (l3 : Int32) (l4 : Int32) : gX12_gets_14  (n + 1) M l0 l1 l2 l3 l4 = (if (41 : Int32) ≤ l4 then (gX12_gets_55 M l0 l3) else (if l3 = (-5 : Int32) then (if l4 ≤ 0 then (gX12_gets_36 (gX12_gets_14 n) M l0 l1 l2 l3 l4) else (ck (isK M l0 12) <| bd (fX12_goesHour M l0) fun x12 M12 => gX12_gets_36 (gX12_gets_14 n) M12 l0 l1 l2 l3 l4)) else (gX12_gets_55 M l0 l3))) := rfl
set_option maxRecDepth 100000 in
set_option maxHeartbeats 4000000 in
theorem wX12_gets_14 {z : Zx} {fx : Fx} {al : Bool} {r : Nat} {N : Mem} {xr : Int32} (hz : Zok z fx al yX12_gets.cls yX12_gets.name cX12_gets (some .int) 5 (r + 6) 0 0 (some (.int xr)) N)    : ∀ {n : Nat} {M : Mem} {l0 : Nat} {l1 : Int32} {l2 : Int32} {l3 : Int32} {l4 : Int32}, gX12_gets_14  n M l0 l1 l2 l3 l4 = some (xr, N) → V z 14 [some (.ref l0), some (.int l1), some (.int l2), some (.int l3), some (.int l4)] [] M 0 0 := by
  intro n
  induction n with
  | zero => intro M l0 l1 l2 l3 l4 h; cases h
  | succ n ih =>
    intro M l0 l1 l2 l3 l4 h
    replace h := (gX12_gets_14_s  n M l0 l1 l2 l3 l4).symm.trans h
    refine v_iload hz rfl dX12_gets_14 ?_
    refine v_bipush hz (v := (41 : Int32)) (by decide) dX12_gets_16 ?_
    refine v_icmp_ge (tgt := 55) hz dX12_gets_18 (by decide) (fun hc => ?_) (fun hc => ?_)
    · replace h := (if_pos hc).symm.trans h
      exact v_weak (lvle_s (lvle_n (lvle_n (lvle_s (lvle_n lvle_0))))) (wX12_gets_55 hz   h)
    · replace h := (if_neg hc).symm.trans h
      refine v_iload_n hz rfl rfl dX12_gets_21 ?_
      refine v_bipush hz (v := (-5 : Int32)) (by decide) dX12_gets_22 ?_
      refine v_icmp_ne (tgt := 55) hz dX12_gets_24 (by decide) (fun hc => ?_) (fun hc => ?_)
      · replace h := (if_neg hc).symm.trans h
        exact v_weak (lvle_s (lvle_n (lvle_n (lvle_s (lvle_n lvle_0))))) (wX12_gets_55 hz   h)
      · replace h := (if_pos hc).symm.trans h
        refine v_iload hz rfl dX12_gets_27 ?_
        refine v_if_le (tgt := 36) hz dX12_gets_29 (by decide) (fun hc => ?_) (fun hc => ?_)
        · replace h := (if_pos hc).symm.trans h
          exact v_weak (lvle_s (lvle_s (lvle_s (lvle_s (lvle_s lvle_0))))) (wX12_gets_36 hz  (fun h => ih h) h)
        · replace h := (if_neg hc).symm.trans h
          refine v_aload_n hz rfl rfl dX12_gets_32 ?_
          obtain ⟨ck11, h⟩ := ck_inv h
          obtain ⟨ka11, kb11⟩ := isK_of ck11
          obtain ⟨x12, M12, e12, h⟩ := bd_inv h
          refine v_callV hz (As := []) vl_X12_250 (tX12_goesHour (r + 0) e12) rfl (by decide) ka11 kb11 rfl rfl rfl (Nat.le_of_ble_eq_true rfl) ⟨by decide, by decide⟩ dX12_gets_33 ?_
          show V z 36 [some (.ref l0), some (.int l1), some (.int l2), some (.int l3), some (.int l4)] [] M12 0 0
          exact v_weak (lvle_s (lvle_s (lvle_s (lvle_s (lvle_s lvle_0))))) (wX12_gets_36 hz  (fun h => ih h) h)
set_option maxRecDepth 100000 in
set_option maxHeartbeats 4000000 in
theorem tX12_gets (r : Nat) {fx : Fx} {al : Bool} {M N : Mem} {a0 : Nat} {a1 : Int32} {a2 : Int32} {xr : Int32}  (h : fX12_gets M a0 a1 a2 = some (xr, N)) : Ct fx yX12_gets cX12_gets 5 (some .int) (r + 6) 0 0 al [.ref a0, .int a1, .int a2] M (some (.int xr)) N := by
  refine ct_of (lv := [some (.ref a0), some (.int a1), some (.int a2), none, none]) (by decide) (Nat.le_of_ble_eq_true rfl) rfl rfl (fun z hz => ?_)
  unfold fX12_gets at h
  refine v_aload_n hz rfl rfl dX12_gets_0 ?_
  refine v_aload_n hz rfl rfl dX12_gets_1 ?_
  obtain ⟨ck1, h⟩ := ck_inv h
  obtain ⟨ka1, kb1⟩ := isK_of ck1
  obtain ⟨b2, r2, h⟩ := rb_inv h
  refine v_getR hz fl_X12_82 rfl dX12_gets_2 ka1 kb1 r2 ?_
  obtain ⟨x3, M3, e3, h⟩ := bd_inv h
  refine v_callV hz (As := [.ref b2]) vl_X12_253 (tX12_keep (r + 5) e3) rfl (by decide) ka1 kb1 rfl rfl rfl (Nat.le_of_ble_eq_true rfl) ⟨by decide, by decide⟩ dX12_gets_5 ?_
  show V z 8 [some (.ref a0), some (.int a1), some (.int a2), none, none] [] M3 0 0
  refine v_bipush hz (v := (-5 : Int32)) (by decide) dX12_gets_8 ?_
  refine v_istore_n hz (lw := [some (.ref a0), some (.int a1), some (.int a2), some (.int (-5 : Int32)), none]) rfl (Nat.le_of_ble_eq_true rfl) rfl rfl dX12_gets_10 ?_
  refine v_iconst hz (v := (0 : Int32)) (by decide) dX12_gets_11 ?_
  refine v_istore hz (lw := [some (.ref a0), some (.int a1), some (.int a2), some (.int (-5 : Int32)), some (.int (0 : Int32))]) (Nat.le_of_ble_eq_true rfl) rfl rfl dX12_gets_12 ?_
  exact v_weak (lvle_s (lvle_s (lvle_s (lvle_s (lvle_s lvle_0))))) (wX12_gets_14 hz   h)
