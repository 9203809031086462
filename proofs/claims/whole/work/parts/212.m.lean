noncomputable def gX12_init_266  : Nat → Mem → Nat → Int32 → Option (Unit × Mem)
  | 0, _, _, _ => none
  | n + 1, M, l0, l1 => if (6 : Int32) ≤ l1 then (some ((), M)) else (ck (isK M l0 12) <| rb (mR M l0 41) fun b65 => ck (isK M b65 14) <| ck (inb l1 (mG M b65)) <| (gX12_init_266 n) (stI M b65 l1.toNatClampNeg (-1 : Int32)) l0 (l1 + (1 : Int32)))
noncomputable def gX12_init_240  : Nat → Mem → Nat → Int32 → Option (Unit × Mem)
  | 0, _, _, _ => none
  | n + 1, M, l0, l1 => if (25 : Int32) ≤ l1 then (ck (isK M l0 12) <| gX12_init_266 FU (stI M l0 15 (-1 : Int32)) l0 (0 : Int32)) else (ck (isK M l0 12) <| rb (mR M l0 0) fun b69 => ck (isK M b69 14) <| ck (inb l1 (mG M b69)) <| (gX12_init_240 n) (stI M b69 l1.toNatClampNeg (5 : Int32)) l0 (l1 + (1 : Int32)))
noncomputable def fX12_init (M : Mem) (a0 : Nat) : Option (Unit × Mem) :=
  nm (alc M 14 25) fun M1 => ck (isK M1 a0 12) <| nm (alc (stR M1 a0 0 (some (mN M))) 14 6) fun M3 => ck (isK M3 a0 12) <| nm (alc (stR M3 a0 2 (some (mN (stR M1 a0 0 (some (mN M)))))) 14 6) fun M5 => ck (isK M5 a0 12) <| nm (alc (stR M5 a0 3 (some (mN (stR M3 a0 2 (some (mN (stR M1 a0 0 (some (mN M))))))))) 14 6) fun M7 => ck (isK M7 a0 12) <| nm (alc (stR M7 a0 4 (some (mN (stR M5 a0 3 (some (mN (stR M3 a0 2 (some (mN (stR M1 a0 0 (some (mN M)))))))))))) 14 6) fun M9 => ck (isK M9 a0 12) <| nm (alc (stR M9 a0 5 (some (mN (stR M7 a0 4 (some (mN (stR M5 a0 3 (some (mN (stR M3 a0 2 (some (mN (stR M1 a0 0 (some (mN M))))))))))))))) 14 24) fun M11 => ck (isK M11 a0 12) <| nm (stR M11 a0 6 (some (mN (stR M9 a0 5 (some (mN (stR M7 a0 4 (some (mN (stR M5 a0 3 (some (mN (stR M3 a0 2 (some (mN (stR M1 a0 0 (some (mN M)))))))))))))))))) fun M13 => nm (alc M13 14 100) fun M14 => ck (isK M14 a0 12) <| nm (alc (stR M14 a0 9 (some (mN M13))) 14 6) fun M16 => ck (isK M16 a0 12) <| nm (alc (stR M16 a0 16 (some (mN (stR M14 a0 9 (some (mN M13)))))) 14 61) fun M18 => ck (isK M18 a0 12) <| nm (alc (stR M18 a0 17 (some (mN (stR M16 a0 16 (some (mN (stR M14 a0 9 (some (mN M13))))))))) 14 61) fun M20 => ck (isK M20 a0 12) <| nm (alc (stR M20 a0 18 (some (mN (stR M18 a0 17 (some (mN (stR M16 a0 16 (some (mN (stR M14 a0 9 (some (mN M13)))))))))))) 14 61) fun M22 => ck (isK M22 a0 12) <| nm (alc (stR M22 a0 19 (some (mN (stR M20 a0 18 (some (mN (stR M18 a0 17 (some (mN (stR M16 a0 16 (some (mN (stR M14 a0 9 (some (mN M13))))))))))))))) 14 61) fun M24 => ck (isK M24 a0 12) <| nm (stR M24 a0 20 (some (mN (stR M22 a0 19 (some (mN (stR M20 a0 18 (some (mN (stR M18 a0 17 (some (mN (stR M16 a0 16 (some (mN (stR M14 a0 9 (some (mN M13)))))))))))))))))) fun M26 => nm (alc M26 14 800) fun M27 => ck (isK M27 a0 12) <| nm (alc (stR M27 a0 21 (some (mN M26))) 16 110) fun M29 => ck (isK M29 a0 12) <| nm (alc (stR M29 a0 23 (some (mN (stR M27 a0 21 (some (mN M26)))))) 14 5) fun M31 => ck (isK M31 a0 12) <| nm (alc (stR M31 a0 25 (some (mN (stR M29 a0 23 (some (mN (stR M27 a0 21 (some (mN M26))))))))) 14 5) fun M33 => ck (isK M33 a0 12) <| nm (alc (stR M33 a0 26 (some (mN (stR M31 a0 25 (some (mN (stR M29 a0 23 (some (mN (stR M27 a0 21 (some (mN M26)))))))))))) 14 5) fun M35 => ck (isK M35 a0 12) <| nm (alc (stR M35 a0 27 (some (mN (stR M33 a0 26 (some (mN (stR M31 a0 25 (some (mN (stR M29 a0 23 (some (mN (stR M27 a0 21 (some (mN M26))))))))))))))) 14 10) fun M37 => ck (isK M37 a0 12) <| nm (stR M37 a0 29 (some (mN (stR M35 a0 27 (some (mN (stR M33 a0 26 (some (mN (stR M31 a0 25 (some (mN (stR M29 a0 23 (some (mN (stR M27 a0 21 (some (mN M26)))))))))))))))))) fun M39 => nm (alc M39 14 10) fun M40 => ck (isK M40 a0 12) <| nm (alc (stR M40 a0 30 (some (mN M39))) 14 8) fun M42 => ck (isK M42 a0 12) <| nm (alc (stR M42 a0 32 (some (mN (stR M40 a0 30 (some (mN M39)))))) 14 8) fun M44 => ck (isK M44 a0 12) <| nm (alc (stR M44 a0 33 (some (mN (stR M42 a0 32 (some (mN (stR M40 a0 30 (some (mN M39))))))))) 14 20) fun M46 => ck (isK M46 a0 12) <| nm (alc (stR M46 a0 35 (some (mN (stR M44 a0 33 (some (mN (stR M42 a0 32 (some (mN (stR M40 a0 30 (some (mN M39)))))))))))) 14 130) fun M48 => ck (isK M48 a0 12) <| nm (alc (stR M48 a0 37 (some (mN (stR M46 a0 35 (some (mN (stR M44 a0 33 (some (mN (stR M42 a0 32 (some (mN (stR M40 a0 30 (some (mN M39))))))))))))))) 14 130) fun M50 => ck (isK M50 a0 12) <| nm (stR M50 a0 38 (some (mN (stR M48 a0 37 (some (mN (stR M46 a0 35 (some (mN (stR M44 a0 33 (some (mN (stR M42 a0 32 (some (mN (stR M40 a0 30 (some (mN M39)))))))))))))))))) fun M52 => nm (alc M52 14 130) fun M53 => ck (isK M53 a0 12) <| nm (alc (stR M53 a0 39 (some (mN M52))) 14 25) fun M55 => ck (isK M55 a0 12) <| nm (alc (stR M55 a0 40 (some (mN (stR M53 a0 39 (some (mN M52)))))) 14 6) fun M57 => ck (isK M57 a0 12) <| nm (alc (stR M57 a0 41 (some (mN (stR M55 a0 40 (some (mN (stR M53 a0 39 (some (mN M52))))))))) 14 6) fun M59 => ck (isK M59 a0 12) <| nm (alc (stR M59 a0 42 (some (mN (stR M57 a0 41 (some (mN (stR M55 a0 40 (some (mN (stR M53 a0 39 (some (mN M52)))))))))))) 15 360) fun M61 => ck (isK M61 a0 12) <| gX12_init_240 FU (stR M61 a0 43 (some (mN (stR M59 a0 42 (some (mN (stR M57 a0 41 (some (mN (stR M55 a0 40 (some (mN (stR M53 a0 39 (some (mN M52))))))))))))))) a0 (0 : Int32)
set_option maxRecDepth 100000 in
set_option maxHeartbeats 4000000 in
theorem gX12_init_266_s  (n : Nat) (M : Mem) (l0 : Nat) (l1 : Int32) : gX12_init_266  (n + 1) M l0 l1 = (if (6 : Int32) ≤ l1 then (some ((), M)) else (ck (isK M l0 12) <| rb (mR M l0 41) fun b65 => ck (isK M b65 14) <| ck (inb l1 (mG M b65)) <| (gX12_init_266 n) (stI M b65 l1.toNatClampNeg (-1 : Int32)) l0 (l1 + (1 : Int32)))) := rfl
set_option maxRecDepth 100000 in
set_option maxHeartbeats 4000000 in
theorem wX12_init_266 {z : Zx} {fx : Fx} {r : Nat} {N : Mem} (hz : Zok z fx true yX12_init.cls yX12_init.name cX12_init none 2 (r + 1) 29 2191 none N)    : ∀ {n : Nat} {M : Mem} {l0 : Nat} {l1 : Int32}, gX12_init_266  n M l0 l1 = some ((), N) → V z 266 [some (.ref l0), some (.int l1)] [] M 29 2191 := by
  intro n
  induction n with
  | zero => intro M l0 l1 h; cases h
  | succ n ih =>
    intro M l0 l1 h
    replace h := (gX12_init_266_s  n M l0 l1).symm.trans h
    refine v_iload_n hz rfl rfl dX12_init_266 ?_
    refine v_bipush hz (v := (6 : Int32)) (by decide) dX12_init_267 ?_
    refine v_icmp_ge (tgt := 285) hz dX12_init_269 (by decide) (fun hc => ?_) (fun hc => ?_)
    · replace h := (if_pos hc).symm.trans h
      obtain ⟨-, rfl⟩ := sp_inv h
      exact v_vret hz dX12_init_285 (by decide) (by decide)
    · replace h := (if_neg hc).symm.trans h
      refine v_aload_n hz rfl rfl dX12_init_272 ?_
      obtain ⟨ck64, h⟩ := ck_inv h
      obtain ⟨ka64, kb64⟩ := isK_of ck64
      obtain ⟨b65, r65, h⟩ := rb_inv h
      refine v_getR hz fl_X12_91 rfl dX12_init_273 ka64 kb64 r65 ?_
      refine v_iload_n hz rfl rfl dX12_init_276 ?_
      refine v_iconst hz (v := (-1 : Int32)) (by decide) dX12_init_277 ?_
      obtain ⟨ck66, h⟩ := ck_inv h
      obtain ⟨ka66, kb66⟩ := isK_of ck66
      obtain ⟨g67, h⟩ := ck_inv h
      refine v_iastore hz dX12_init_278 ka66 kb66 g67 ?_
      refine v_iinc hz (v := (l1 + (1 : Int32))) (lw := [some (.ref l0), some (.int (l1 + (1 : Int32)))]) rfl (congrArg (fun q => l1 + q) (show Int32.ofInt (1) = (1 : Int32) by decide)) rfl rfl dX12_init_279 ?_
      refine v_goto (tgt := 266) hz dX12_init_282 (by decide) ?_
      exact v_weak (lvle_s (lvle_s lvle_0)) (ih h)
set_option maxRecDepth 100000 in
set_option maxHeartbeats 4000000 in
theorem gX12_init_240_s  (n : Nat) (M : Mem) (l0 : Nat) (l1 : Int32) : gX12_init_240  (n + 1) M l0 l1 = (if (25 : Int32) ≤ l1 then (ck (isK M l0 12) <| gX12_init_266 FU (stI M l0 15 (-1 : Int32)) l0 (0 : Int32)) else (ck (isK M l0 12) <| rb (mR M l0 0) fun b69 => ck (isK M b69 14) <| ck (inb l1 (mG M b69)) <| (gX12_init_240 n) (stI M b69 l1.toNatClampNeg (5 : Int32)) l0 (l1 + (1 : Int32)))) := rfl
set_option maxRecDepth 100000 in
set_option maxHeartbeats 4000000 in
theorem wX12_init_240 {z : Zx} {fx : Fx} {r : Nat} {N : Mem} (hz : Zok z fx true yX12_init.cls yX12_init.name cX12_init none 2 (r + 1) 29 2191 none N)    : ∀ {n : Nat} {M : Mem} {l0 : Nat} {l1 : Int32}, gX12_init_240  n M l0 l1 = some ((), N) → V z 240 [some (.ref l0), some (.int l1)] [] M 29 2191 := by
  intro n
  induction n with
  | zero => intro M l0 l1 h; cases h
  | succ n ih =>
    intro M l0 l1 h
    replace h := (gX12_init_240_s  n M l0 l1).symm.trans h
    refine v_iload_n hz rfl rfl dX12_init_240 ?_
    refine v_bipush hz (v := (25 : Int32)) (by decide) dX12_init_241 ?_
    refine v_icmp_ge (tgt := 259) hz dX12_init_243 (by decide) (fun hc => ?_) (fun hc => ?_)
    · replace h := (if_pos hc).symm.trans h
      refine v_aload_n hz rfl rfl dX12_init_259 ?_
      refine v_iconst hz (v := (-1 : Int32)) (by decide) dX12_init_260 ?_
      obtain ⟨ck63, h⟩ := ck_inv h
      obtain ⟨ka63, kb63⟩ := isK_of ck63
      refine v_putI hz fl_X12_101 ft_12_15 (by decide) rfl rfl rfl dX12_init_261 ka63 kb63 ?_
      refine v_iconst hz (v := (0 : Int32)) (by decide) dX12_init_264 ?_
      refine v_istore_n hz (lw := [some (.ref l0), some (.int (0 : Int32))]) rfl (Nat.le_of_ble_eq_true rfl) rfl rfl dX12_init_265 ?_
      exact v_weak (lvle_s (lvle_s lvle_0)) (wX12_init_266 hz   h)
    · replace h := (if_neg hc).symm.trans h
      refine v_aload_n hz rfl rfl dX12_init_246 ?_
      obtain ⟨ck68, h⟩ := ck_inv h
      obtain ⟨ka68, kb68⟩ := isK_of ck68
      obtain ⟨b69, r69, h⟩ := rb_inv h
      refine v_getR hz fl_X12_9 rfl dX12_init_247 ka68 kb68 r69 ?_
      refine v_iload_n hz rfl rfl dX12_init_250 ?_
      refine v_iconst hz (v := (5 : Int32)) (by decide) dX12_init_251 ?_
      obtain ⟨ck70, h⟩ := ck_inv h
      obtain ⟨ka70, kb70⟩ := isK_of ck70
      obtain ⟨g71, h⟩ := ck_inv h
      refine v_iastore hz dX12_init_252 ka70 kb70 g71 ?_
      refine v_iinc hz (v := (l1 + (1 : Int32))) (lw := [some (.ref l0), some (.int (l1 + (1 : Int32)))]) rfl (congrArg (fun q => l1 + q) (show Int32.ofInt (1) = (1 : Int32) by decide)) rfl rfl dX12_init_253 ?_
      refine v_goto (tgt := 240) hz dX12_init_256 (by decide) ?_
      exact v_weak (lvle_s (lvle_s lvle_0)) (ih h)
set_option maxRecDepth 100000 in
set_option maxHeartbeats 4000000 in
theorem tX12_init (r : Nat) {fx : Fx} {M N : Mem} {a0 : Nat}  (h : fX12_init M a0 = some ((), N)) : Ct fx yX12_init cX12_init 2 none (r + 1) 29 2191 true [.ref a0] M none N := by
  refine ct_of (lv := [some (.ref a0), none]) (by decide) (Nat.le_of_ble_eq_true rfl) rfl rfl (fun z hz => ?_)
  unfold fX12_init at h
  refine v_aload_n hz rfl rfl dX12_init_0 ?_
  refine v_objInit hz wq_890 wq_77 wq_78 rfl rfl dX12_init_1 ?_
  refine v_aload_n hz rfl rfl dX12_init_4 ?_
  refine v_bipush hz (v := (25 : Int32)) (by decide) dX12_init_5 ?_
  refine v_newI hz (t0 := 0) (c := 14) (N' := 25) wq_96 (by decide) (by decide) (by decide) (by decide) (by decide) (by decide) dX12_init_7 ?_
  obtain ⟨M1, eM1, h⟩ := nm_inv h
  refine v_mem eM1.symm ?_
  obtain ⟨ck2, h⟩ := ck_inv h
  obtain ⟨ka2, kb2⟩ := isK_of ck2
  refine v_putRF hz fl_X12_9 ft_12_0 rfl (by decide) rfl (fun _ => rfl) (fun _ => rfl) dX12_init_9 ka2 kb2 ?_
  refine v_aload_n hz rfl rfl dX12_init_12 ?_
  refine v_bipush hz (v := (6 : Int32)) (by decide) dX12_init_13 ?_
  refine v_newI hz (t0 := 0) (c := 14) (N' := 6) wq_96 (by decide) (by decide) (by decide) (by decide) (by decide) (by decide) dX12_init_15 ?_
  obtain ⟨M3, eM3, h⟩ := nm_inv h
  refine v_mem eM3.symm ?_
  obtain ⟨ck4, h⟩ := ck_inv h
  obtain ⟨ka4, kb4⟩ := isK_of ck4
  refine v_putRF hz fl_X12_15 ft_12_2 rfl (by decide) rfl (fun _ => rfl) (fun _ => rfl) dX12_init_17 ka4 kb4 ?_
  refine v_aload_n hz rfl rfl dX12_init_20 ?_
  refine v_bipush hz (v := (6 : Int32)) (by decide) dX12_init_21 ?_
  refine v_newI hz (t0 := 0) (c := 14) (N' := 6) wq_96 (by decide) (by decide) (by decide) (by decide) (by decide) (by decide) dX12_init_23 ?_
  obtain ⟨M5, eM5, h⟩ := nm_inv h
  refine v_mem eM5.symm ?_
  obtain ⟨ck6, h⟩ := ck_inv h
  obtain ⟨ka6, kb6⟩ := isK_of ck6
  refine v_putRF hz fl_X12_18 ft_12_3 rfl (by decide) rfl (fun _ => rfl) (fun _ => rfl) dX12_init_25 ka6 kb6 ?_
  refine v_aload_n hz rfl rfl dX12_init_28 ?_
  refine v_bipush hz (v := (6 : Int32)) (by decide) dX12_init_29 ?_
  refine v_newI hz (t0 := 0) (c := 14) (N' := 6) wq_96 (by decide) (by decide) (by decide) (by decide) (by decide) (by decide) dX12_init_31 ?_
  obtain ⟨M7, eM7, h⟩ := nm_inv h
  refine v_mem eM7.symm ?_
  obtain ⟨ck8, h⟩ := ck_inv h
  obtain ⟨ka8, kb8⟩ := isK_of ck8
  refine v_putRF hz fl_X12_21 ft_12_4 rfl (by decide) rfl (fun _ => rfl) (fun _ => rfl) dX12_init_33 ka8 kb8 ?_
  refine v_aload_n hz rfl rfl dX12_init_36 ?_
  refine v_bipush hz (v := (6 : Int32)) (by decide) dX12_init_37 ?_
  refine v_newI hz (t0 := 0) (c := 14) (N' := 6) wq_96 (by decide) (by decide) (by decide) (by decide) (by decide) (by decide) dX12_init_39 ?_
  obtain ⟨M9, eM9, h⟩ := nm_inv h
  refine v_mem eM9.symm ?_
  obtain ⟨ck10, h⟩ := ck_inv h
  obtain ⟨ka10, kb10⟩ := isK_of ck10
  refine v_putRF hz fl_X12_24 ft_12_5 rfl (by decide) rfl (fun _ => rfl) (fun _ => rfl) dX12_init_41 ka10 kb10 ?_
  refine v_aload_n hz rfl rfl dX12_init_44 ?_
  refine v_bipush hz (v := (24 : Int32)) (by decide) dX12_init_45 ?_
  refine v_newI hz (t0 := 0) (c := 14) (N' := 24) wq_96 (by decide) (by decide) (by decide) (by decide) (by decide) (by decide) dX12_init_47 ?_
  obtain ⟨M11, eM11, h⟩ := nm_inv h
  refine v_mem eM11.symm ?_
  obtain ⟨ck12, h⟩ := ck_inv h
  obtain ⟨ka12, kb12⟩ := isK_of ck12
  refine v_putRF hz fl_X12_27 ft_12_6 rfl (by decide) rfl (fun _ => rfl) (fun _ => rfl) dX12_init_49 ka12 kb12 ?_
  obtain ⟨M13, eM13, h⟩ := nm_inv h
  refine v_mem eM13.symm ?_
  refine v_aload_n hz rfl rfl dX12_init_52 ?_
  refine v_bipush hz (v := (100 : Int32)) (by decide) dX12_init_53 ?_
  refine v_newI hz (t0 := 0) (c := 14) (N' := 100) wq_96 (by decide) (by decide) (by decide) (by decide) (by decide) (by decide) dX12_init_55 ?_
  obtain ⟨M14, eM14, h⟩ := nm_inv h
  refine v_mem eM14.symm ?_
  obtain ⟨ck15, h⟩ := ck_inv h
  obtain ⟨ka15, kb15⟩ := isK_of ck15
  refine v_putRF hz fl_X12_30 ft_12_9 rfl (by decide) rfl (fun _ => rfl) (fun _ => rfl) dX12_init_57 ka15 kb15 ?_
  refine v_aload_n hz rfl rfl dX12_init_60 ?_
  refine v_bipush hz (v := (6 : Int32)) (by decide) dX12_init_61 ?_
  refine v_newI hz (t0 := 0) (c := 14) (N' := 6) wq_96 (by decide) (by decide) (by decide) (by decide) (by decide) (by decide) dX12_init_63 ?_
  obtain ⟨M16, eM16, h⟩ := nm_inv h
  refine v_mem eM16.symm ?_
  obtain ⟨ck17, h⟩ := ck_inv h
  obtain ⟨ka17, kb17⟩ := isK_of ck17
  refine v_putRF hz fl_X12_33 ft_12_16 rfl (by decide) rfl (fun _ => rfl) (fun _ => rfl) dX12_init_65 ka17 kb17 ?_
  refine v_aload_n hz rfl rfl dX12_init_68 ?_
  refine v_bipush hz (v := (61 : Int32)) (by decide) dX12_init_69 ?_
  refine v_newI hz (t0 := 0) (c := 14) (N' := 61) wq_96 (by decide) (by decide) (by decide) (by decide) (by decide) (by decide) dX12_init_71 ?_
  obtain ⟨M18, eM18, h⟩ := nm_inv h
  refine v_mem eM18.symm ?_
  obtain ⟨ck19, h⟩ := ck_inv h
  obtain ⟨ka19, kb19⟩ := isK_of ck19
  refine v_putRF hz fl_X12_36 ft_12_17 rfl (by decide) rfl (fun _ => rfl) (fun _ => rfl) dX12_init_73 ka19 kb19 ?_
  refine v_aload_n hz rfl rfl dX12_init_76 ?_
  refine v_bipush hz (v := (61 : Int32)) (by decide) dX12_init_77 ?_
  refine v_newI hz (t0 := 0) (c := 14) (N' := 61) wq_96 (by decide) (by decide) (by decide) (by decide) (by decide) (by decide) dX12_init_79 ?_
  obtain ⟨M20, eM20, h⟩ := nm_inv h
  refine v_mem eM20.symm ?_
  obtain ⟨ck21, h⟩ := ck_inv h
  obtain ⟨ka21, kb21⟩ := isK_of ck21
  refine v_putRF hz fl_X12_39 ft_12_18 rfl (by decide) rfl (fun _ => rfl) (fun _ => rfl) dX12_init_81 ka21 kb21 ?_
  refine v_aload_n hz rfl rfl dX12_init_84 ?_
  refine v_bipush hz (v := (61 : Int32)) (by decide) dX12_init_85 ?_
  refine v_newI hz (t0 := 0) (c := 14) (N' := 61) wq_96 (by decide) (by decide) (by decide) (by decide) (by decide) (by decide) dX12_init_87 ?_
  obtain ⟨M22, eM22, h⟩ := nm_inv h
  refine v_mem eM22.symm ?_
  obtain ⟨ck23, h⟩ := ck_inv h
  obtain ⟨ka23, kb23⟩ := isK_of ck23
  refine v_putRF hz fl_X12_42 ft_12_19 rfl (by decide) rfl (fun _ => rfl) (fun _ => rfl) dX12_init_89 ka23 kb23 ?_
  refine v_aload_n hz rfl rfl dX12_init_92 ?_
  refine v_bipush hz (v := (61 : Int32)) (by decide) dX12_init_93 ?_
  refine v_newI hz (t0 := 0) (c := 14) (N' := 61) wq_96 (by decide) (by decide) (by decide) (by decide) (by decide) (by decide) dX12_init_95 ?_
  obtain ⟨M24, eM24, h⟩ := nm_inv h
  refine v_mem eM24.symm ?_
  obtain ⟨ck25, h⟩ := ck_inv h
  obtain ⟨ka25, kb25⟩ := isK_of ck25
  refine v_putRF hz fl_X12_45 ft_12_20 rfl (by decide) rfl (fun _ => rfl) (fun _ => rfl) dX12_init_97 ka25 kb25 ?_
  obtain ⟨M26, eM26, h⟩ := nm_inv h
  refine v_mem eM26.symm ?_
  refine v_aload_n hz rfl rfl dX12_init_100 ?_
  refine v_sipush hz (v := (800 : Int32)) (by decide) dX12_init_101 ?_
  refine v_newI hz (t0 := 0) (c := 14) (N' := 800) wq_96 (by decide) (by decide) (by decide) (by decide) (by decide) (by decide) dX12_init_104 ?_
  obtain ⟨M27, eM27, h⟩ := nm_inv h
  refine v_mem eM27.symm ?_
  obtain ⟨ck28, h⟩ := ck_inv h
  obtain ⟨ka28, kb28⟩ := isK_of ck28
  refine v_putRF hz fl_X12_48 ft_12_21 rfl (by decide) rfl (fun _ => rfl) (fun _ => rfl) dX12_init_106 ka28 kb28 ?_
  refine v_aload_n hz rfl rfl dX12_init_109 ?_
  refine v_bipush hz (v := (110 : Int32)) (by decide) dX12_init_110 ?_
  refine v_newI hz (t0 := 0) (c := 16) (N' := 110) wq_259 (by decide) (by decide) (by decide) (by decide) (by decide) (by decide) dX12_init_112 ?_
  obtain ⟨M29, eM29, h⟩ := nm_inv h
  refine v_mem eM29.symm ?_
  obtain ⟨ck30, h⟩ := ck_inv h
  obtain ⟨ka30, kb30⟩ := isK_of ck30
  refine v_putRF hz fl_X12_51 ft_12_23 rfl (by decide) rfl (fun _ => rfl) (fun _ => rfl) dX12_init_114 ka30 kb30 ?_
  refine v_aload_n hz rfl rfl dX12_init_117 ?_
  refine v_iconst hz (v := (5 : Int32)) (by decide) dX12_init_118 ?_
  refine v_newI hz (t0 := 0) (c := 14) (N' := 5) wq_96 (by decide) (by decide) (by decide) (by decide) (by decide) (by decide) dX12_init_119 ?_
  obtain ⟨M31, eM31, h⟩ := nm_inv h
  refine v_mem eM31.symm ?_
  obtain ⟨ck32, h⟩ := ck_inv h
  obtain ⟨ka32, kb32⟩ := isK_of ck32
  refine v_putRF hz fl_X12_55 ft_12_25 rfl (by decide) rfl (fun _ => rfl) (fun _ => rfl) dX12_init_121 ka32 kb32 ?_
  refine v_aload_n hz rfl rfl dX12_init_124 ?_
  refine v_iconst hz (v := (5 : Int32)) (by decide) dX12_init_125 ?_
  refine v_newI hz (t0 := 0) (c := 14) (N' := 5) wq_96 (by decide) (by decide) (by decide) (by decide) (by decide) (by decide) dX12_init_126 ?_
  obtain ⟨M33, eM33, h⟩ := nm_inv h
  refine v_mem eM33.symm ?_
  obtain ⟨ck34, h⟩ := ck_inv h
  obtain ⟨ka34, kb34⟩ := isK_of ck34
  refine v_putRF hz fl_X12_58 ft_12_26 rfl (by decide) rfl (fun _ => rfl) (fun _ => rfl) dX12_init_128 ka34 kb34 ?_
  refine v_aload_n hz rfl rfl dX12_init_131 ?_
  refine v_iconst hz (v := (5 : Int32)) (by decide) dX12_init_132 ?_
  refine v_newI hz (t0 := 0) (c := 14) (N' := 5) wq_96 (by decide) (by decide) (by decide) (by decide) (by decide) (by decide) dX12_init_133 ?_
  obtain ⟨M35, eM35, h⟩ := nm_inv h
  refine v_mem eM35.symm ?_
  obtain ⟨ck36, h⟩ := ck_inv h
  obtain ⟨ka36, kb36⟩ := isK_of ck36
  refine v_putRF hz fl_X12_61 ft_12_27 rfl (by decide) rfl (fun _ => rfl) (fun _ => rfl) dX12_init_135 ka36 kb36 ?_
  refine v_aload_n hz rfl rfl dX12_init_138 ?_
  refine v_bipush hz (v := (10 : Int32)) (by decide) dX12_init_139 ?_
  refine v_newI hz (t0 := 0) (c := 14) (N' := 10) wq_96 (by decide) (by decide) (by decide) (by decide) (by decide) (by decide) dX12_init_141 ?_
  obtain ⟨M37, eM37, h⟩ := nm_inv h
  refine v_mem eM37.symm ?_
  obtain ⟨ck38, h⟩ := ck_inv h
  obtain ⟨ka38, kb38⟩ := isK_of ck38
  refine v_putRF hz fl_X12_64 ft_12_29 rfl (by decide) rfl (fun _ => rfl) (fun _ => rfl) dX12_init_143 ka38 kb38 ?_
  obtain ⟨M39, eM39, h⟩ := nm_inv h
  refine v_mem eM39.symm ?_
  refine v_aload_n hz rfl rfl dX12_init_146 ?_
  refine v_bipush hz (v := (10 : Int32)) (by decide) dX12_init_147 ?_
  refine v_newI hz (t0 := 0) (c := 14) (N' := 10) wq_96 (by decide) (by decide) (by decide) (by decide) (by decide) (by decide) dX12_init_149 ?_
  obtain ⟨M40, eM40, h⟩ := nm_inv h
  refine v_mem eM40.symm ?_
  obtain ⟨ck41, h⟩ := ck_inv h
  obtain ⟨ka41, kb41⟩ := isK_of ck41
  refine v_putRF hz fl_X12_67 ft_12_30 rfl (by decide) rfl (fun _ => rfl) (fun _ => rfl) dX12_init_151 ka41 kb41 ?_
  refine v_aload_n hz rfl rfl dX12_init_154 ?_
  refine v_bipush hz (v := (8 : Int32)) (by decide) dX12_init_155 ?_
  refine v_newI hz (t0 := 0) (c := 14) (N' := 8) wq_96 (by decide) (by decide) (by decide) (by decide) (by decide) (by decide) dX12_init_157 ?_
  obtain ⟨M42, eM42, h⟩ := nm_inv h
  refine v_mem eM42.symm ?_
  obtain ⟨ck43, h⟩ := ck_inv h
  obtain ⟨ka43, kb43⟩ := isK_of ck43
  refine v_putRF hz fl_X12_70 ft_12_32 rfl (by decide) rfl (fun _ => rfl) (fun _ => rfl) dX12_init_159 ka43 kb43 ?_
  refine v_aload_n hz rfl rfl dX12_init_162 ?_
  refine v_bipush hz (v := (8 : Int32)) (by decide) dX12_init_163 ?_
  refine v_newI hz (t0 := 0) (c := 14) (N' := 8) wq_96 (by decide) (by decide) (by decide) (by decide) (by decide) (by decide) dX12_init_165 ?_
  obtain ⟨M44, eM44, h⟩ := nm_inv h
  refine v_mem eM44.symm ?_
  obtain ⟨ck45, h⟩ := ck_inv h
  obtain ⟨ka45, kb45⟩ := isK_of ck45
  refine v_putRF hz fl_X12_73 ft_12_33 rfl (by decide) rfl (fun _ => rfl) (fun _ => rfl) dX12_init_167 ka45 kb45 ?_
  refine v_aload_n hz rfl rfl dX12_init_170 ?_
  refine v_bipush hz (v := (20 : Int32)) (by decide) dX12_init_171 ?_
  refine v_newI hz (t0 := 0) (c := 14) (N' := 20) wq_96 (by decide) (by decide) (by decide) (by decide) (by decide) (by decide) dX12_init_173 ?_
  obtain ⟨M46, eM46, h⟩ := nm_inv h
  refine v_mem eM46.symm ?_
  obtain ⟨ck47, h⟩ := ck_inv h
  obtain ⟨ka47, kb47⟩ := isK_of ck47
  refine v_putRF hz fl_X12_76 ft_12_35 rfl (by decide) rfl (fun _ => rfl) (fun _ => rfl) dX12_init_175 ka47 kb47 ?_
  refine v_aload_n hz rfl rfl dX12_init_178 ?_
  refine v_sipush hz (v := (130 : Int32)) (by decide) dX12_init_179 ?_
  refine v_newI hz (t0 := 0) (c := 14) (N' := 130) wq_96 (by decide) (by decide) (by decide) (by decide) (by decide) (by decide) dX12_init_182 ?_
  obtain ⟨M48, eM48, h⟩ := nm_inv h
  refine v_mem eM48.symm ?_
  obtain ⟨ck49, h⟩ := ck_inv h
  obtain ⟨ka49, kb49⟩ := isK_of ck49
  refine v_putRF hz fl_X12_79 ft_12_37 rfl (by decide) rfl (fun _ => rfl) (fun _ => rfl) dX12_init_184 ka49 kb49 ?_
  refine v_aload_n hz rfl rfl dX12_init_187 ?_
  refine v_sipush hz (v := (130 : Int32)) (by decide) dX12_init_188 ?_
  refine v_newI hz (t0 := 0) (c := 14) (N' := 130) wq_96 (by decide) (by decide) (by decide) (by decide) (by decide) (by decide) dX12_init_191 ?_
  obtain ⟨M50, eM50, h⟩ := nm_inv h
  refine v_mem eM50.symm ?_
  obtain ⟨ck51, h⟩ := ck_inv h
  obtain ⟨ka51, kb51⟩ := isK_of ck51
  refine v_putRF hz fl_X12_82 ft_12_38 rfl (by decide) rfl (fun _ => rfl) (fun _ => rfl) dX12_init_193 ka51 kb51 ?_
  obtain ⟨M52, eM52, h⟩ := nm_inv h
  refine v_mem eM52.symm ?_
  refine v_aload_n hz rfl rfl dX12_init_196 ?_
  refine v_sipush hz (v := (130 : Int32)) (by decide) dX12_init_197 ?_
  refine v_newI hz (t0 := 0) (c := 14) (N' := 130) wq_96 (by decide) (by decide) (by decide) (by decide) (by decide) (by decide) dX12_init_200 ?_
  obtain ⟨M53, eM53, h⟩ := nm_inv h
  refine v_mem eM53.symm ?_
  obtain ⟨ck54, h⟩ := ck_inv h
  obtain ⟨ka54, kb54⟩ := isK_of ck54
  refine v_putRF hz fl_X12_85 ft_12_39 rfl (by decide) rfl (fun _ => rfl) (fun _ => rfl) dX12_init_202 ka54 kb54 ?_
  refine v_aload_n hz rfl rfl dX12_init_205 ?_
  refine v_bipush hz (v := (25 : Int32)) (by decide) dX12_init_206 ?_
  refine v_newI hz (t0 := 0) (c := 14) (N' := 25) wq_96 (by decide) (by decide) (by decide) (by decide) (by decide) (by decide) dX12_init_208 ?_
  obtain ⟨M55, eM55, h⟩ := nm_inv h
  refine v_mem eM55.symm ?_
  obtain ⟨ck56, h⟩ := ck_inv h
  obtain ⟨ka56, kb56⟩ := isK_of ck56
  refine v_putRF hz fl_X12_88 ft_12_40 rfl (by decide) rfl (fun _ => rfl) (fun _ => rfl) dX12_init_210 ka56 kb56 ?_
  refine v_aload_n hz rfl rfl dX12_init_213 ?_
  refine v_bipush hz (v := (6 : Int32)) (by decide) dX12_init_214 ?_
  refine v_newI hz (t0 := 0) (c := 14) (N' := 6) wq_96 (by decide) (by decide) (by decide) (by decide) (by decide) (by decide) dX12_init_216 ?_
  obtain ⟨M57, eM57, h⟩ := nm_inv h
  refine v_mem eM57.symm ?_
  obtain ⟨ck58, h⟩ := ck_inv h
  obtain ⟨ka58, kb58⟩ := isK_of ck58
  refine v_putRF hz fl_X12_91 ft_12_41 rfl (by decide) rfl (fun _ => rfl) (fun _ => rfl) dX12_init_218 ka58 kb58 ?_
  refine v_aload_n hz rfl rfl dX12_init_221 ?_
  refine v_bipush hz (v := (6 : Int32)) (by decide) dX12_init_222 ?_
  refine v_newI hz (t0 := 0) (c := 14) (N' := 6) wq_96 (by decide) (by decide) (by decide) (by decide) (by decide) (by decide) dX12_init_224 ?_
  obtain ⟨M59, eM59, h⟩ := nm_inv h
  refine v_mem eM59.symm ?_
  obtain ⟨ck60, h⟩ := ck_inv h
  obtain ⟨ka60, kb60⟩ := isK_of ck60
  refine v_putRF hz fl_X12_94 ft_12_42 rfl (by decide) rfl (fun _ => rfl) (fun _ => rfl) dX12_init_226 ka60 kb60 ?_
  refine v_aload_n hz rfl rfl dX12_init_229 ?_
  refine v_sipush hz (v := (360 : Int32)) (by decide) dX12_init_230 ?_
  refine v_newL hz (N' := 360) wq_162 (by decide) (by decide) (by decide) (by decide) (by decide) dX12_init_233 ?_
  obtain ⟨M61, eM61, h⟩ := nm_inv h
  refine v_mem eM61.symm ?_
  obtain ⟨ck62, h⟩ := ck_inv h
  obtain ⟨ka62, kb62⟩ := isK_of ck62
  refine v_putRF hz fl_X12_97 ft_12_43 rfl (by decide) rfl (fun _ => rfl) (fun _ => rfl) dX12_init_235 ka62 kb62 ?_
  refine v_iconst hz (v := (0 : Int32)) (by decide) dX12_init_238 ?_
  refine v_istore_n hz (lw := [some (.ref a0), some (.int (0 : Int32))]) rfl (Nat.le_of_ble_eq_true rfl) rfl rfl dX12_init_239 ?_
  exact v_weak (lvle_s (lvle_s lvle_0)) (wX12_init_240 hz   h)
noncomputable def fX12_within (M : Mem) (a0 : Int32) (a1 : Int32) (a2 : Int32) : Option (Int32 × Mem) :=
  if a0 < a1 then (some ((0 : Int32), M)) else (if a2 < a0 then (some ((0 : Int32), M)) else (some ((1 : Int32), M)))
set_option maxRecDepth 100000 in
set_option maxHeartbeats 4000000 in
theorem tX12_within (r : Nat) {fx : Fx} {al : Bool} {M N : Mem} {a0 : Int32} {a1 : Int32} {a2 : Int32} {xr : Int32}  (h : fX12_within M a0 a1 a2 = some (xr, N)) : Ct fx yX12_within cX12_within 3 (some .boolean) (r + 0) 0 0 al [.int a0, .int a1, .int a2] M (some (.int xr)) N := by
  refine ct_of (lv := [some (.int a0), some (.int a1), some (.int a2)]) (by decide) (Nat.le_of_ble_eq_true rfl) rfl rfl (fun z hz => ?_)
  unfold fX12_within at h
  refine v_iload_n hz rfl rfl dX12_within_0 ?_
  refine v_iload_n hz rfl rfl dX12_within_1 ?_
  refine v_icmp_lt (tgt := 14) hz dX12_within_2 (by decide) (fun hc => ?_) (fun hc => ?_)
  · replace h := (if_pos hc).symm.trans h
    refine v_iconst hz (v := (0 : Int32)) (by decide) dX12_within_14 ?_
    obtain ⟨rfl, rfl⟩ := sp_inv h
    exact v_zret hz (Or.inl rfl) dX12_within_15 (by decide) (by decide)
  · replace h := (if_neg hc).symm.trans h
    refine v_iload_n hz rfl rfl dX12_within_5 ?_
    refine v_iload_n hz rfl rfl dX12_within_6 ?_
    refine v_icmp_gt (tgt := 14) hz dX12_within_7 (by decide) (fun hc => ?_) (fun hc => ?_)
    · replace h := (if_pos hc).symm.trans h
      refine v_iconst hz (v := (0 : Int32)) (by decide) dX12_within_14 ?_
      obtain ⟨rfl, rfl⟩ := sp_inv h
      exact v_zret hz (Or.inl rfl) dX12_within_15 (by decide) (by decide)
    · replace h := (if_neg hc).symm.trans h
      refine v_iconst hz (v := (1 : Int32)) (by decide) dX12_within_10 ?_
      refine v_goto (tgt := 15) hz dX12_within_11 (by decide) ?_
      obtain ⟨rfl, rfl⟩ := sp_inv h
      exact v_zret hz (Or.inr rfl) dX12_within_15 (by decide) (by decide)
noncomputable def fX12_isOne (M : Mem) (a0 : Nat) (a1 : Int32) : Option (Int32 × Mem) :=
  ck (isK M a0 12) <| bd (fX12_within M a1 (0 : Int32) ((mI M a0 1) - (1 : Int32))) fun x2 M2 => ck (b01 x2) <| some (x2, M2)
set_option maxRecDepth 100000 in
set_option maxHeartbeats 4000000 in
theorem tX12_isOne (r : Nat) {fx : Fx} {al : Bool} {M N : Mem} {a0 : Nat} {a1 : Int32} {xr : Int32}  (h : fX12_isOne M a0 a1 = some (xr, N)) : Ct fx yX12_isOne cX12_isOne 2 (some .boolean) (r + 1) 0 0 al [.ref a0, .int a1] M (some (.int xr)) N := by
  refine ct_of (lv := [some (.ref a0), some (.int a1)]) (by decide) (Nat.le_of_ble_eq_true rfl) rfl rfl (fun z hz => ?_)
  unfold fX12_isOne at h
  refine v_iload_n hz rfl rfl dX12_isOne_0 ?_
  refine v_iconst hz (v := (0 : Int32)) (by decide) dX12_isOne_1 ?_
  refine v_aload_n hz rfl rfl dX12_isOne_2 ?_
  obtain ⟨ck1, h⟩ := ck_inv h
  obtain ⟨ka1, kb1⟩ := isK_of ck1
  refine v_getI hz fl_X12_105 rfl dX12_isOne_3 ka1 kb1 ?_
  refine v_iconst hz (v := (1 : Int32)) (by decide) dX12_isOne_6 ?_
  refine v_isub hz dX12_isOne_7 ?_
  obtain ⟨x2, M2, e2, h⟩ := bd_inv h
  refine v_callS hz (As := [.int a1, .int (0 : Int32), .int ((mI M a0 1) - (1 : Int32))]) sl_X12_108 (tX12_within (r + 0) e2) rfl rfl rfl (Nat.le_of_ble_eq_true rfl) ⟨by decide, by decide⟩ dX12_isOne_8 ?_
  show V z 11 [some (.ref a0), some (.int a1)] [.int x2] M2 0 0
  obtain ⟨g3, h⟩ := ck_inv h
  obtain ⟨rfl, rfl⟩ := sp_inv h
  exact v_zret hz (b01_of g3) dX12_isOne_11 (by decide) (by decide)
noncomputable def fX12_isCell (M : Mem) (a0 : Int32) : Option (Int32 × Mem) :=
  bd (fX12_within M a0 (0 : Int32) (24 : Int32)) fun x1 M1 => ck (b01 x1) <| some (x1, M1)
set_option maxRecDepth 100000 in
set_option maxHeartbeats 4000000 in
theorem tX12_isCell (r : Nat) {fx : Fx} {al : Bool} {M N : Mem} {a0 : Int32} {xr : Int32}  (h : fX12_isCell M a0 = some (xr, N)) : Ct fx yX12_isCell cX12_isCell 1 (some .boolean) (r + 1) 0 0 al [.int a0] M (some (.int xr)) N := by
  refine ct_of (lv := [some (.int a0)]) (by decide) (Nat.le_of_ble_eq_true rfl) rfl rfl (fun z hz => ?_)
  unfold fX12_isCell at h
  refine v_iload_n hz rfl rfl dX12_isCell_0 ?_
  refine v_iconst hz (v := (0 : Int32)) (by decide) dX12_isCell_1 ?_
  refine v_bipush hz (v := (24 : Int32)) (by decide) dX12_isCell_2 ?_
  obtain ⟨x1, M1, e1, h⟩ := bd_inv h
  refine v_callS hz (As := [.int a0, .int (0 : Int32), .int (24 : Int32)]) sl_X12_108 (tX12_within (r + 0) e1) rfl rfl rfl (Nat.le_of_ble_eq_true rfl) ⟨by decide, by decide⟩ dX12_isCell_4 ?_
  show V z 7 [some (.int a0)] [.int x1] M1 0 0
  obtain ⟨g2, h⟩ := ck_inv h
  obtain ⟨rfl, rfl⟩ := sp_inv h
  exact v_zret hz (b01_of g2) dX12_isCell_7 (by decide) (by decide)
noncomputable def gX12_one_87  : Nat → Mem → Nat → Int32 → Option (Int32 × Mem)
  | 0, _, _, _ => none
  | n + 1, M, l0, l4 => if (4 : Int32) ≤ l4 then (ck (isK M l0 12) <| some ((mI M l0 1), (stI M l0 1 ((mI M l0 1) + (1 : Int32))))) else (ck (isK M l0 12) <| rb (mR M l0 6) fun b21 => ck (isK M b21 14) <| ck (inb (((4 : Int32) * (mI M l0 1)) + l4) (mG M b21)) <| (gX12_one_87 n) (stI M b21 (((4 : Int32) * (mI M l0 1)) + l4).toNatClampNeg (0 : Int32)) l0 (l4 + (1 : Int32)))
noncomputable def fX12_one (M : Mem) (a0 : Nat) (a1 : Int32) (a2 : Int32) (a3 : Int32) : Option (Int32 × Mem) :=
  bd (fX12_within M a1 (0 : Int32) (6 : Int32)) fun x1 M1 => if x1 = 0 then (some ((-1 : Int32), M1)) else (bd (fX12_isCell M1 a3) fun x2 M2 => if x2 = 0 then (some ((-1 : Int32), M2)) else (bd (fX12_within M2 a2 (0 : Int32) (9 : Int32)) fun x3 M3 => if x3 = 0 then (some ((-2 : Int32), M3)) else (ck (isK M3 a0 12) <| if (mI M3 a0 1) = (6 : Int32) then (some ((-4 : Int32), M3)) else (rb (mR M3 a0 2) fun b5 => ck (isK M3 b5 14) <| ck (inb (mI M3 a0 1) (mG M3 b5)) <| rb (mR (stI M3 b5 (mI M3 a0 1).toNatClampNeg a1) a0 3) fun b8 => ck (isK M3 b8 14) <| ck (inb (mI (stI M3 b5 (mI M3 a0 1).toNatClampNeg a1) a0 1) (mG M3 b8)) <| rb (mR (stI (stI M3 b5 (mI M3 a0 1).toNatClampNeg a1) b8 (mI (stI M3 b5 (mI M3 a0 1).toNatClampNeg a1) a0 1).toNatClampNeg a2) a0 4) fun b11 => ck (isK M3 b11 14) <| ck (inb (mI (stI (stI M3 b5 (mI M3 a0 1).toNatClampNeg a1) b8 (mI (stI M3 b5 (mI M3 a0 1).toNatClampNeg a1) a0 1).toNatClampNeg a2) a0 1) (mG M3 b11)) <| nm (stI (stI (stI M3 b5 (mI M3 a0 1).toNatClampNeg a1) b8 (mI (stI M3 b5 (mI M3 a0 1).toNatClampNeg a1) a0 1).toNatClampNeg a2) b11 (mI (stI (stI M3 b5 (mI M3 a0 1).toNatClampNeg a1) b8 (mI (stI M3 b5 (mI M3 a0 1).toNatClampNeg a1) a0 1).toNatClampNeg a2) a0 1).toNatClampNeg a3) fun M14 => ck (isK M14 a0 12) <| rb (mR M14 a0 5) fun b16 => ck (isK M14 b16 14) <| ck (inb (mI M14 a0 1) (mG M14 b16)) <| gX12_one_87 FU (stI M14 b16 (mI M14 a0 1).toNatClampNeg (0 : Int32)) a0 (0 : Int32)))))
set_option maxRecDepth 100000 in
set_option maxHeartbeats 4000000 in
theorem gX12_one_87_s  (n : Nat) (M : Mem) (l0 : Nat) (l4 : Int32) : gX12_one_87  (n + 1) M l0 l4 = (if (4 : Int32) ≤ l4 then (ck (isK M l0 12) <| some ((mI M l0 1), (stI M l0 1 ((mI M l0 1) + (1 : Int32))))) else (ck (isK M l0 12) <| rb (mR M l0 6) fun b21 => ck (isK M b21 14) <| ck (inb (((4 : Int32) * (mI M l0 1)) + l4) (mG M b21)) <| (gX12_one_87 n) (stI M b21 (((4 : Int32) * (mI M l0 1)) + l4).toNatClampNeg (0 : Int32)) l0 (l4 + (1 : Int32)))) := rfl
set_option maxRecDepth 100000 in
set_option maxHeartbeats 4000000 in
theorem wX12_one_87 {z : Zx} {fx : Fx} {al : Bool} {r : Nat} {N : Mem} {xr : Int32} (hz : Zok z fx al yX12_one.cls yX12_one.name cX12_one (some .int) 5 (r + 2) 0 0 (some (.int xr)) N)    : ∀ {n : Nat} {M : Mem} {l0 : Nat} {l4 : Int32}, gX12_one_87  n M l0 l4 = some (xr, N) → V z 87 [some (.ref l0), none, none, none, some (.int l4)] [] M 0 0 := by
  intro n
  induction n with
  | zero => intro M l0 l4 h; cases h
  | succ n ih =>
    intro M l0 l4 h
    replace h := (gX12_one_87_s  n M l0 l4).symm.trans h
    refine v_iload hz rfl dX12_one_87 ?_
    refine v_iconst hz (v := (4 : Int32)) (by decide) dX12_one_89 ?_
    refine v_icmp_ge (tgt := 114) hz dX12_one_90 (by decide) (fun hc => ?_) (fun hc => ?_)
    · replace h := (if_pos hc).symm.trans h
      refine v_aload_n hz rfl rfl dX12_one_114 ?_
      refine v_dup hz rfl dX12_one_115 ?_
      obtain ⟨ck19, h⟩ := ck_inv h
      obtain ⟨ka19, kb19⟩ := isK_of ck19
      refine v_getI hz fl_X12_105 rfl dX12_one_116 ka19 kb19 ?_
      refine v_dup_x1 hz rfl rfl dX12_one_119 ?_
      refine v_iconst hz (v := (1 : Int32)) (by decide) dX12_one_120 ?_
      refine v_iadd hz dX12_one_121 ?_
      refine v_putI hz fl_X12_105 ft_12_1 (by decide) rfl rfl rfl dX12_one_122 ka19 kb19 ?_
      obtain ⟨rfl, rfl⟩ := sp_inv h
      exact v_iret hz dX12_one_125 (by decide) (by decide)
    · replace h := (if_neg hc).symm.trans h
      refine v_aload_n hz rfl rfl dX12_one_93 ?_
      obtain ⟨ck20, h⟩ := ck_inv h
      obtain ⟨ka20, kb20⟩ := isK_of ck20
      obtain ⟨b21, r21, h⟩ := rb_inv h
      refine v_getR hz fl_X12_27 rfl dX12_one_94 ka20 kb20 r21 ?_
      refine v_iconst hz (v := (4 : Int32)) (by decide) dX12_one_97 ?_
      refine v_aload_n hz rfl rfl dX12_one_98 ?_
      refine v_getI hz fl_X12_105 rfl dX12_one_99 ka20 kb20 ?_
      refine v_imul hz dX12_one_102 ?_
      refine v_iload hz rfl dX12_one_103 ?_
      refine v_iadd hz dX12_one_105 ?_
      refine v_iconst hz (v := (0 : Int32)) (by decide) dX12_one_106 ?_
      obtain ⟨ck22, h⟩ := ck_inv h
      obtain ⟨ka22, kb22⟩ := isK_of ck22
      obtain ⟨g23, h⟩ := ck_inv h
      refine v_iastore hz dX12_one_107 ka22 kb22 g23 ?_
      refine v_iinc hz (v := (l4 + (1 : Int32))) (lw := [some (.ref l0), none, none, none, some (.int (l4 + (1 : Int32)))]) rfl (congrArg (fun q => l4 + q) (show Int32.ofInt (1) = (1 : Int32) by decide)) rfl rfl dX12_one_108 ?_
      refine v_goto (tgt := 87) hz dX12_one_111 (by decide) ?_
      exact v_weak (lvle_s (lvle_n (lvle_n (lvle_n (lvle_s lvle_0))))) (ih h)
set_option maxRecDepth 100000 in
set_option maxHeartbeats 4000000 in
theorem tX12_one (r : Nat) {fx : Fx} {al : Bool} {M N : Mem} {a0 : Nat} {a1 : Int32} {a2 : Int32} {a3 : Int32} {xr : Int32}  (h : fX12_one M a0 a1 a2 a3 = some (xr, N)) : Ct fx yX12_one cX12_one 5 (some .int) (r + 2) 0 0 al [.ref a0, .int a1, .int a2, .int a3] M (some (.int xr)) N := by
  refine ct_of (lv := [some (.ref a0), some (.int a1), some (.int a2), some (.int a3), none]) (by decide) (Nat.le_of_ble_eq_true rfl) rfl rfl (fun z hz => ?_)
  unfold fX12_one at h
  refine v_iload_n hz rfl rfl dX12_one_0 ?_
  refine v_iconst hz (v := (0 : Int32)) (by decide) dX12_one_1 ?_
  refine v_bipush hz (v := (6 : Int32)) (by decide) dX12_one_2 ?_
  obtain ⟨x1, M1, e1, h⟩ := bd_inv h
  refine v_callS hz (As := [.int a1, .int (0 : Int32), .int (6 : Int32)]) sl_X12_108 (tX12_within (r + 1) e1) rfl rfl rfl (Nat.le_of_ble_eq_true rfl) ⟨by decide, by decide⟩ dX12_one_4 ?_
  show V z 7 [some (.ref a0), some (.int a1), some (.int a2), some (.int a3), none] [.int x1] M1 0 0
  refine v_if_eq (tgt := 17) hz dX12_one_7 (by decide) (fun hc => ?_) (fun hc => ?_)
  · replace h := (if_pos hc).symm.trans h
    refine v_iconst hz (v := (-1 : Int32)) (by decide) dX12_one_17 ?_
    obtain ⟨rfl, rfl⟩ := sp_inv h
    exact v_iret hz dX12_one_18 (by decide) (by decide)
  · replace h := (if_neg hc).symm.trans h
    refine v_iload_n hz rfl rfl dX12_one_10 ?_
    obtain ⟨x2, M2, e2, h⟩ := bd_inv h
    refine v_callS hz (As := [.int a3]) sl_X12_112 (tX12_isCell (r + 0) e2) rfl rfl rfl (Nat.le_of_ble_eq_true rfl) ⟨by decide, by decide⟩ dX12_one_11 ?_
    show V z 14 [some (.ref a0), some (.int a1), some (.int a2), some (.int a3), none] [.int x2] M2 0 0
    refine v_if_ne (tgt := 19) hz dX12_one_14 (by decide) (fun hc => ?_) (fun hc => ?_)
    · replace h := (if_neg hc).symm.trans h
      refine v_iload_n hz rfl rfl dX12_one_19 ?_
      refine v_iconst hz (v := (0 : Int32)) (by decide) dX12_one_20 ?_
      refine v_bipush hz (v := (9 : Int32)) (by decide) dX12_one_21 ?_
      obtain ⟨x3, M3, e3, h⟩ := bd_inv h
      refine v_callS hz (As := [.int a2, .int (0 : Int32), .int (9 : Int32)]) sl_X12_108 (tX12_within (r + 1) e3) rfl rfl rfl (Nat.le_of_ble_eq_true rfl) ⟨by decide, by decide⟩ dX12_one_23 ?_
      show V z 26 [some (.ref a0), some (.int a1), some (.int a2), some (.int a3), none] [.int x3] M3 0 0
      refine v_if_ne (tgt := 32) hz dX12_one_26 (by decide) (fun hc => ?_) (fun hc => ?_)
      · replace h := (if_neg hc).symm.trans h
        refine v_aload_n hz rfl rfl dX12_one_32 ?_
        obtain ⟨ck4, h⟩ := ck_inv h
        obtain ⟨ka4, kb4⟩ := isK_of ck4
        refine v_getI hz fl_X12_105 rfl dX12_one_33 ka4 kb4 ?_
        refine v_bipush hz (v := (6 : Int32)) (by decide) dX12_one_36 ?_
        refine v_icmp_ne (tgt := 44) hz dX12_one_38 (by decide) (fun hc => ?_) (fun hc => ?_)
        · replace h := (if_neg hc).symm.trans h
          refine v_aload_n hz rfl rfl dX12_one_44 ?_
          obtain ⟨b5, r5, h⟩ := rb_inv h
          refine v_getR hz fl_X12_15 rfl dX12_one_45 ka4 kb4 r5 ?_
          refine v_aload_n hz rfl rfl dX12_one_48 ?_
          refine v_getI hz fl_X12_105 rfl dX12_one_49 ka4 kb4 ?_
          refine v_iload_n hz rfl rfl dX12_one_52 ?_
          obtain ⟨ck6, h⟩ := ck_inv h
          obtain ⟨ka6, kb6⟩ := isK_of ck6
          obtain ⟨g7, h⟩ := ck_inv h
          refine v_iastore hz dX12_one_53 ka6 kb6 g7 ?_
          refine v_aload_n hz rfl rfl dX12_one_54 ?_
          obtain ⟨b8, r8, h⟩ := rb_inv h
          refine v_getR hz fl_X12_18 rfl dX12_one_55 ka4 kb4 r8 ?_
          refine v_aload_n hz rfl rfl dX12_one_58 ?_
          refine v_getI hz fl_X12_105 rfl dX12_one_59 ka4 kb4 ?_
          refine v_iload_n hz rfl rfl dX12_one_62 ?_
          obtain ⟨ck9, h⟩ := ck_inv h
          obtain ⟨ka9, kb9⟩ := isK_of ck9
          obtain ⟨g10, h⟩ := ck_inv h
          refine v_iastore hz dX12_one_63 ka9 kb9 g10 ?_
          refine v_aload_n hz rfl rfl dX12_one_64 ?_
          obtain ⟨b11, r11, h⟩ := rb_inv h
          refine v_getR hz fl_X12_21 rfl dX12_one_65 ka4 kb4 r11 ?_
          refine v_aload_n hz rfl rfl dX12_one_68 ?_
          refine v_getI hz fl_X12_105 rfl dX12_one_69 ka4 kb4 ?_
          refine v_iload_n hz rfl rfl dX12_one_72 ?_
          obtain ⟨ck12, h⟩ := ck_inv h
          obtain ⟨ka12, kb12⟩ := isK_of ck12
          obtain ⟨g13, h⟩ := ck_inv h
          refine v_iastore hz dX12_one_73 ka12 kb12 g13 ?_
          obtain ⟨M14, eM14, h⟩ := nm_inv h
          refine v_mem eM14.symm ?_
          refine v_aload_n hz rfl rfl dX12_one_74 ?_
          obtain ⟨ck15, h⟩ := ck_inv h
          obtain ⟨ka15, kb15⟩ := isK_of ck15
          obtain ⟨b16, r16, h⟩ := rb_inv h
          refine v_getR hz fl_X12_24 rfl dX12_one_75 ka15 kb15 r16 ?_
          refine v_aload_n hz rfl rfl dX12_one_78 ?_
          refine v_getI hz fl_X12_105 rfl dX12_one_79 ka15 kb15 ?_
          refine v_iconst hz (v := (0 : Int32)) (by decide) dX12_one_82 ?_
          obtain ⟨ck17, h⟩ := ck_inv h
          obtain ⟨ka17, kb17⟩ := isK_of ck17
          obtain ⟨g18, h⟩ := ck_inv h
          refine v_iastore hz dX12_one_83 ka17 kb17 g18 ?_
          refine v_iconst hz (v := (0 : Int32)) (by decide) dX12_one_84 ?_
          refine v_istore hz (lw := [some (.ref a0), some (.int a1), some (.int a2), some (.int a3), some (.int (0 : Int32))]) (Nat.le_of_ble_eq_true rfl) rfl rfl dX12_one_85 ?_
          exact v_weak (lvle_s (lvle_n (lvle_n (lvle_n (lvle_s lvle_0))))) (wX12_one_87 hz   h)
        · replace h := (if_pos hc).symm.trans h
          refine v_bipush hz (v := (-4 : Int32)) (by decide) dX12_one_41 ?_
          obtain ⟨rfl, rfl⟩ := sp_inv h
          exact v_iret hz dX12_one_43 (by decide) (by decide)
      · replace h := (if_pos hc).symm.trans h
        refine v_bipush hz (v := (-2 : Int32)) (by decide) dX12_one_29 ?_
        obtain ⟨rfl, rfl⟩ := sp_inv h
        exact v_iret hz dX12_one_31 (by decide) (by decide)
    · replace h := (if_pos hc).symm.trans h
      refine v_iconst hz (v := (-1 : Int32)) (by decide) dX12_one_17 ?_
      obtain ⟨rfl, rfl⟩ := sp_inv h
      exact v_iret hz dX12_one_18 (by decide) (by decide)
noncomputable def fX12_next (M : Mem) (a0 : Int32) (a1 : Int32) : Option (Int32 × Mem) :=
  if a1 = (0 : Int32) then (if (5 : Int32) ≤ a0 then (some ((a0 - (5 : Int32)), M)) else (some ((-1 : Int32), M))) else if a1 = (1 : Int32) then (if (a0 - a0 / (5 : Int32) * (5 : Int32)) = (4 : Int32) then (some ((-1 : Int32), M)) else (some ((a0 + (1 : Int32)), M))) else if a1 = (2 : Int32) then (if a0 ≤ (19 : Int32) then (some ((a0 + (5 : Int32)), M)) else (some ((-1 : Int32), M))) else (if (a0 - a0 / (5 : Int32) * (5 : Int32)) = 0 then (some ((-1 : Int32), M)) else (some ((a0 - (1 : Int32)), M)))
set_option maxRecDepth 100000 in
set_option maxHeartbeats 4000000 in
theorem tX12_next (r : Nat) {fx : Fx} {al : Bool} {M N : Mem} {a0 : Int32} {a1 : Int32} {xr : Int32}  (h : fX12_next M a0 a1 = some (xr, N)) : Ct fx yX12_next cX12_next 2 (some .int) (r + 0) 0 0 al [.int a0, .int a1] M (some (.int xr)) N := by
  refine ct_of (lv := [some (.int a0), some (.int a1)]) (by decide) (Nat.le_of_ble_eq_true rfl) rfl rfl (fun z hz => ?_)
  unfold fX12_next at h
  refine v_iload_n hz rfl rfl dX12_next_0 ?_
  by_cases hs1_0 : a1 = (0 : Int32)
  · replace h := (if_pos hs1_0).symm.trans h
    refine v_tableAt (tgt := 28) hz hs1_0 dX12_next_1 (by decide) (by decide) (by decide) (by decide) ?_
    refine v_iload_n hz rfl rfl dX12_next_28 ?_
    refine v_iconst hz (v := (5 : Int32)) (by decide) dX12_next_29 ?_
    refine v_icmp_ge (tgt := 37) hz dX12_next_30 (by decide) (fun hc => ?_) (fun hc => ?_)
    · replace h := (if_pos hc).symm.trans h
      refine v_iload_n hz rfl rfl dX12_next_37 ?_
      refine v_iconst hz (v := (5 : Int32)) (by decide) dX12_next_38 ?_
      refine v_isub hz dX12_next_39 ?_
      obtain ⟨rfl, rfl⟩ := sp_inv h
      exact v_iret hz dX12_next_40 (by decide) (by decide)
    · replace h := (if_neg hc).symm.trans h
      refine v_iconst hz (v := (-1 : Int32)) (by decide) dX12_next_33 ?_
      refine v_goto (tgt := 40) hz dX12_next_34 (by decide) ?_
      obtain ⟨rfl, rfl⟩ := sp_inv h
      exact v_iret hz dX12_next_40 (by decide) (by decide)
  replace h := (if_neg hs1_0).symm.trans h
  by_cases hs1_1 : a1 = (1 : Int32)
  · replace h := (if_pos hs1_1).symm.trans h
    refine v_tableAt (tgt := 41) hz hs1_1 dX12_next_1 (by decide) (by decide) (by decide) (by decide) ?_
    refine v_iload_n hz rfl rfl dX12_next_41 ?_
    refine v_iconst hz (v := (5 : Int32)) (by decide) dX12_next_42 ?_
    refine v_irem hz (by decide) dX12_next_43 ?_
    refine v_iconst hz (v := (4 : Int32)) (by decide) dX12_next_44 ?_
    refine v_icmp_ne (tgt := 52) hz dX12_next_45 (by decide) (fun hc => ?_) (fun hc => ?_)
    · replace h := (if_neg hc).symm.trans h
      refine v_iload_n hz rfl rfl dX12_next_52 ?_
      refine v_iconst hz (v := (1 : Int32)) (by decide) dX12_next_53 ?_
      refine v_iadd hz dX12_next_54 ?_
      obtain ⟨rfl, rfl⟩ := sp_inv h
      exact v_iret hz dX12_next_55 (by decide) (by decide)
    · replace h := (if_pos hc).symm.trans h
      refine v_iconst hz (v := (-1 : Int32)) (by decide) dX12_next_48 ?_
      refine v_goto (tgt := 55) hz dX12_next_49 (by decide) ?_
      obtain ⟨rfl, rfl⟩ := sp_inv h
      exact v_iret hz dX12_next_55 (by decide) (by decide)
  replace h := (if_neg hs1_1).symm.trans h
  by_cases hs1_2 : a1 = (2 : Int32)
  · replace h := (if_pos hs1_2).symm.trans h
    refine v_tableAt (tgt := 56) hz hs1_2 dX12_next_1 (by decide) (by decide) (by decide) (by decide) ?_
    refine v_iload_n hz rfl rfl dX12_next_56 ?_
    refine v_bipush hz (v := (19 : Int32)) (by decide) dX12_next_57 ?_
    refine v_icmp_le (tgt := 66) hz dX12_next_59 (by decide) (fun hc => ?_) (fun hc => ?_)
    · replace h := (if_pos hc).symm.trans h
      refine v_iload_n hz rfl rfl dX12_next_66 ?_
      refine v_iconst hz (v := (5 : Int32)) (by decide) dX12_next_67 ?_
      refine v_iadd hz dX12_next_68 ?_
      obtain ⟨rfl, rfl⟩ := sp_inv h
      exact v_iret hz dX12_next_69 (by decide) (by decide)
    · replace h := (if_neg hc).symm.trans h
      refine v_iconst hz (v := (-1 : Int32)) (by decide) dX12_next_62 ?_
      refine v_goto (tgt := 69) hz dX12_next_63 (by decide) ?_
      obtain ⟨rfl, rfl⟩ := sp_inv h
      exact v_iret hz dX12_next_69 (by decide) (by decide)
  replace h := (if_neg hs1_2).symm.trans h
  refine v_tableOut (tgt := 70) hz dX12_next_1 (by have q0 := lv_neT hs1_0 (show ((0 : Int32)).toInt = 0 by decide); have q1 := lv_neT hs1_1 (show ((1 : Int32)).toInt = 1 by decide); have q2 := lv_neT hs1_2 (show ((2 : Int32)).toInt = 2 by decide); omega) (by decide) ?_
  refine v_iload_n hz rfl rfl dX12_next_70 ?_
  refine v_iconst hz (v := (5 : Int32)) (by decide) dX12_next_71 ?_
  refine v_irem hz (by decide) dX12_next_72 ?_
  refine v_if_ne (tgt := 80) hz dX12_next_73 (by decide) (fun hc => ?_) (fun hc => ?_)
  · replace h := (if_neg hc).symm.trans h
    refine v_iload_n hz rfl rfl dX12_next_80 ?_
    refine v_iconst hz (v := (1 : Int32)) (by decide) dX12_next_81 ?_
    refine v_isub hz dX12_next_82 ?_
    obtain ⟨rfl, rfl⟩ := sp_inv h
    exact v_iret hz dX12_next_83 (by decide) (by decide)
  · replace h := (if_pos hc).symm.trans h
    refine v_iconst hz (v := (-1 : Int32)) (by decide) dX12_next_76 ?_
    refine v_goto (tgt := 83) hz dX12_next_77 (by decide) ?_
    obtain ⟨rfl, rfl⟩ := sp_inv h
    exact v_iret hz dX12_next_83 (by decide) (by decide)
noncomputable def gX12_baldFrom_59 (K5 : Mem → Nat → Int32 → Int32 → Option (Int32 × Mem)) (M : Mem) (l0 : Nat) (l1 : Int32) (l2 : Int32) : Option (Int32 × Mem) :=
  K5 M l0 l1 (l2 + (1 : Int32))
noncomputable def gX12_baldFrom_5  : Nat → Mem → Nat → Int32 → Int32 → Option (Int32 × Mem)
  | 0, _, _, _, _ => none
  | n + 1, M, l0, l1, l2 => ck (isK M l0 12) <| if (mI M l0 15) = (-1 : Int32) then (some (l1, M)) else (rb (mR M l0 16) fun b2 => ck (isK M b2 14) <| ck (inb (mI M l0 15) (mG M b2)) <| if (mI M b2 (mI M l0 15).toNatClampNeg) ≤ l2 then (some (l1, M)) else (rb (mR M l0 17) fun b5 => ck (isK M b5 14) <| ck (inb (((10 : Int32) * (mI M l0 15)) + l2) (mG M b5)) <| if (mI M b5 (((10 : Int32) * (mI M l0 15)) + l2).toNatClampNeg) = (2 : Int32) then (rb (mR M l0 18) fun b8 => ck (isK M b8 14) <| ck (inb (((10 : Int32) * (mI M l0 15)) + l2) (mG M b8)) <| gX12_baldFrom_59 (gX12_baldFrom_5 n) M l0 (mI M b8 (((10 : Int32) * (mI M l0 15)) + l2).toNatClampNeg) l2) else (gX12_baldFrom_59 (gX12_baldFrom_5 n) M l0 l1 l2)))
noncomputable def fX12_baldFrom (M : Mem) (a0 : Nat) : Option (Int32 × Mem) :=
  gX12_baldFrom_5 FU M a0 (95 : Int32) (0 : Int32)
set_option maxRecDepth 100000 in
set_option maxHeartbeats 4000000 in
theorem wX12_baldFrom_59 {z : Zx} {fx : Fx} {al : Bool} {r : Nat} {N : Mem} {xr : Int32} (hz : Zok z fx al yX12_baldFrom.cls yX12_baldFrom.name cX12_baldFrom (some .int) 3 (r + 0) 0 0 (some (.int xr)) N)  {K5 : Mem → Nat → Int32 → Int32 → Option (Int32 × Mem)} (hK5 : ∀ {M : Mem} {l0 : Nat} {l1 : Int32} {l2 : Int32}, K5 M l0 l1 l2 = some (xr, N) → V z 5 [some (.ref l0), some (.int l1), some (.int l2)] [] M 0 0) {M : Mem} {l0 : Nat} {l1 : Int32} {l2 : Int32} (h : gX12_baldFrom_59 K5 M l0 l1 l2 = some (xr, N)) : V z 59 [some (.ref l0), some (.int l1), some (.int l2)] [] M 0 0 := by
  unfold gX12_baldFrom_59 at h
  refine v_iinc hz (v := (l2 + (1 : Int32))) (lw := [some (.ref l0), some (.int l1), some (.int (l2 + (1 : Int32)))]) rfl (congrArg (fun q => l2 + q) (show Int32.ofInt (1) = (1 : Int32) by decide)) rfl rfl dX12_baldFrom_59 ?_
  refine v_goto (tgt := 5) hz dX12_baldFrom_62 (by decide) ?_
  exact v_weak (lvle_s (lvle_s (lvle_s lvle_0))) (hK5 h)
set_option maxRecDepth 100000 in
set_option maxHeartbeats 4000000 in
theorem gX12_baldFrom_5_s  (n : Nat) (M : Mem) (l0 : Nat) (l1 : Int32) (l2 : Int32) : gX12_baldFrom_5  (n + 1) M l0 l1 l2 = (ck (isK M l0 12) <| if (mI M l0 15) = (-1 : Int32) then (some (l1, M)) else (rb (mR M l0 16) fun b2 => ck (isK M b2 14) <| ck (inb (mI M l0 15) (mG M b2)) <| if (mI M b2 (mI M l0 15).toNatClampNeg) ≤ l2 then (some (l1, M)) else (rb (mR M l0 17) fun b5 => ck (isK M b5 14) <| ck (inb (((10 : Int32) * (mI M l0 15)) + l2) (mG M b5)) <| if (mI M b5 (((10 : Int32) * (mI M l0 15)) + l2).toNatClampNeg) = (2 : Int32) then (rb (mR M l0 18) fun b8 => ck (isK M b8 14) <| ck (inb (((10 : Int32) * (mI M l0 15)) + l2) (mG M b8)) <| gX12_baldFrom_59 (gX12_baldFrom_5 n) M l0 (mI M b8 (((10 : Int32) * (mI M l0 15)) + l2).toNatClampNeg) l2) else (gX12_baldFrom_59 (gX12_baldFrom_5 n) M l0 l1 l2)))) := rfl
set_option maxRecDepth 100000 in
set_option maxHeartbeats 4000000 in
theorem wX12_baldFrom_5 {z : Zx} {fx : Fx} {al : Bool} {r : Nat} {N : Mem} {xr : Int32} (hz : Zok z fx al yX12_baldFrom.cls yX12_baldFrom.name cX12_baldFrom (some .int) 3 (r + 0) 0 0 (some (.int xr)) N)    : ∀ {n : Nat} {M : Mem} {l0 : Nat} {l1 : Int32} {l2 : Int32}, gX12_baldFrom_5  n M l0 l1 l2 = some (xr, N) → V z 5 [some (.ref l0), some (.int l1), some (.int l2)] [] M 0 0 := by
  intro n
  induction n with
  | zero => intro M l0 l1 l2 h; cases h
  | succ n ih =>
    intro M l0 l1 l2 h
    replace h := (gX12_baldFrom_5_s  n M l0 l1 l2).symm.trans h
    refine v_aload_n hz rfl rfl dX12_baldFrom_5 ?_
    obtain ⟨ck1, h⟩ := ck_inv h
    obtain ⟨ka1, kb1⟩ := isK_of ck1
    refine v_getI hz fl_X12_101 rfl dX12_baldFrom_6 ka1 kb1 ?_
    refine v_iconst hz (v := (-1 : Int32)) (by decide) dX12_baldFrom_9 ?_
    refine v_icmp_eq (tgt := 65) hz dX12_baldFrom_10 (by decide) (fun hc => ?_) (fun hc => ?_)
    · replace h := (if_pos hc).symm.trans h
      refine v_iload_n hz rfl rfl dX12_baldFrom_65 ?_
      obtain ⟨rfl, rfl⟩ := sp_inv h
      exact v_iret hz dX12_baldFrom_66 (by decide) (by decide)
    · replace h := (if_neg hc).symm.trans h
      refine v_iload_n hz rfl rfl dX12_baldFrom_13 ?_
      refine v_aload_n hz rfl rfl dX12_baldFrom_14 ?_
      obtain ⟨b2, r2, h⟩ := rb_inv h
      refine v_getR hz fl_X12_33 rfl dX12_baldFrom_15 ka1 kb1 r2 ?_
      refine v_aload_n hz rfl rfl dX12_baldFrom_18 ?_
      refine v_getI hz fl_X12_101 rfl dX12_baldFrom_19 ka1 kb1 ?_
      obtain ⟨ck3, h⟩ := ck_inv h
      obtain ⟨ka3, kb3⟩ := isK_of ck3
      obtain ⟨g4, h⟩ := ck_inv h
      refine v_iaload hz dX12_baldFrom_22 ka3 kb3 g4 ?_
      refine v_icmp_ge (tgt := 65) hz dX12_baldFrom_23 (by decide) (fun hc => ?_) (fun hc => ?_)
      · replace h := (if_pos hc).symm.trans h
        refine v_iload_n hz rfl rfl dX12_baldFrom_65 ?_
        obtain ⟨rfl, rfl⟩ := sp_inv h
        exact v_iret hz dX12_baldFrom_66 (by decide) (by decide)
      · replace h := (if_neg hc).symm.trans h
        refine v_aload_n hz rfl rfl dX12_baldFrom_26 ?_
        obtain ⟨b5, r5, h⟩ := rb_inv h
        refine v_getR hz fl_X12_36 rfl dX12_baldFrom_27 ka1 kb1 r5 ?_
        refine v_bipush hz (v := (10 : Int32)) (by decide) dX12_baldFrom_30 ?_
        refine v_aload_n hz rfl rfl dX12_baldFrom_32 ?_
        refine v_getI hz fl_X12_101 rfl dX12_baldFrom_33 ka1 kb1 ?_
        refine v_imul hz dX12_baldFrom_36 ?_
        refine v_iload_n hz rfl rfl dX12_baldFrom_37 ?_
        refine v_iadd hz dX12_baldFrom_38 ?_
        obtain ⟨ck6, h⟩ := ck_inv h
        obtain ⟨ka6, kb6⟩ := isK_of ck6
        obtain ⟨g7, h⟩ := ck_inv h
        refine v_iaload hz dX12_baldFrom_39 ka6 kb6 g7 ?_
        refine v_iconst hz (v := (2 : Int32)) (by decide) dX12_baldFrom_40 ?_
        refine v_icmp_ne (tgt := 59) hz dX12_baldFrom_41 (by decide) (fun hc => ?_) (fun hc => ?_)
        · replace h := (if_neg hc).symm.trans h
          exact v_weak (lvle_s (lvle_s (lvle_s lvle_0))) (wX12_baldFrom_59 hz  (fun h => ih h) h)
        · replace h := (if_pos hc).symm.trans h
          refine v_aload_n hz rfl rfl dX12_baldFrom_44 ?_
          obtain ⟨b8, r8, h⟩ := rb_inv h
          refine v_getR hz fl_X12_39 rfl dX12_baldFrom_45 ka1 kb1 r8 ?_
          refine v_bipush hz (v := (10 : Int32)) (by decide) dX12_baldFrom_48 ?_
          refine v_aload_n hz rfl rfl dX12_baldFrom_50 ?_
          refine v_getI hz fl_X12_101 rfl dX12_baldFrom_51 ka1 kb1 ?_
          refine v_imul hz dX12_baldFrom_54 ?_
          refine v_iload_n hz rfl rfl dX12_baldFrom_55 ?_
          refine v_iadd hz dX12_baldFrom_56 ?_
          obtain ⟨ck9, h⟩ := ck_inv h
          obtain ⟨ka9, kb9⟩ := isK_of ck9
          obtain ⟨g10, h⟩ := ck_inv h
          refine v_iaload hz dX12_baldFrom_57 ka9 kb9 g10 ?_
          refine v_istore_n hz (lw := [some (.ref l0), some (.int (mI M b8 (((10 : Int32) * (mI M l0 15)) + l2).toNatClampNeg)), some (.int l2)]) rfl (Nat.le_of_ble_eq_true rfl) rfl rfl dX12_baldFrom_58 ?_
          exact v_weak (lvle_s (lvle_s (lvle_s lvle_0))) (wX12_baldFrom_59 hz  (fun h => ih h) h)
set_option maxRecDepth 100000 in
set_option maxHeartbeats 4000000 in
theorem tX12_baldFrom (r : Nat) {fx : Fx} {al : Bool} {M N : Mem} {a0 : Nat} {xr : Int32}  (h : fX12_baldFrom M a0 = some (xr, N)) : Ct fx yX12_baldFrom cX12_baldFrom 3 (some .int) (r + 0) 0 0 al [.ref a0] M (some (.int xr)) N := by
  refine ct_of (lv := [some (.ref a0), none, none]) (by decide) (Nat.le_of_ble_eq_true rfl) rfl rfl (fun z hz => ?_)
  unfold fX12_baldFrom at h
  refine v_bipush hz (v := (95 : Int32)) (by decide) dX12_baldFrom_0 ?_
  refine v_istore_n hz (lw := [some (.ref a0), some (.int (95 : Int32)), none]) rfl (Nat.le_of_ble_eq_true rfl) rfl rfl dX12_baldFrom_2 ?_
  refine v_iconst hz (v := (0 : Int32)) (by decide) dX12_baldFrom_3 ?_
  refine v_istore_n hz (lw := [some (.ref a0), some (.int (95 : Int32)), some (.int (0 : Int32))]) rfl (Nat.le_of_ble_eq_true rfl) rfl rfl dX12_baldFrom_4 ?_
  exact v_weak (lvle_s (lvle_s (lvle_s lvle_0))) (wX12_baldFrom_5 hz   h)
noncomputable def fX12_isBald (M : Mem) (a0 : Nat) (a1 : Int32) : Option (Int32 × Mem) :=
  ck (isK M a0 12) <| rb (mR M a0 0) fun b2 => ck (isK M b2 14) <| ck (inb a1 (mG M b2)) <| bd (fX12_baldFrom M a0) fun x5 M5 => if (mI M b2 a1.toNatClampNeg) < x5 then (some ((0 : Int32), M5)) else (some ((1 : Int32), M5))
set_option maxRecDepth 100000 in
set_option maxHeartbeats 4000000 in
theorem tX12_isBald (r : Nat) {fx : Fx} {al : Bool} {M N : Mem} {a0 : Nat} {a1 : Int32} {xr : Int32}  (h : fX12_isBald M a0 a1 = some (xr, N)) : Ct fx yX12_isBald cX12_isBald 2 (some .boolean) (r + 1) 0 0 al [.ref a0, .int a1] M (some (.int xr)) N := by
  refine ct_of (lv := [some (.ref a0), some (.int a1)]) (by decide) (Nat.le_of_ble_eq_true rfl) rfl rfl (fun z hz => ?_)
  unfold fX12_isBald at h
  refine v_aload_n hz rfl rfl dX12_isBald_0 ?_
  obtain ⟨ck1, h⟩ := ck_inv h
  obtain ⟨ka1, kb1⟩ := isK_of ck1
  obtain ⟨b2, r2, h⟩ := rb_inv h
  refine v_getR hz fl_X12_9 rfl dX12_isBald_1 ka1 kb1 r2 ?_
  refine v_iload_n hz rfl rfl dX12_isBald_4 ?_
  obtain ⟨ck3, h⟩ := ck_inv h
  obtain ⟨ka3, kb3⟩ := isK_of ck3
  obtain ⟨g4, h⟩ := ck_inv h
  refine v_iaload hz dX12_isBald_5 ka3 kb3 g4 ?_
  refine v_aload_n hz rfl rfl dX12_isBald_6 ?_
  obtain ⟨x5, M5, e5, h⟩ := bd_inv h
  refine v_callV hz (As := []) vl_X12_221 (tX12_baldFrom (r + 0) e5) rfl (by decide) ka1 kb1 rfl rfl rfl (Nat.le_of_ble_eq_true rfl) ⟨by decide, by decide⟩ dX12_isBald_7 ?_
  show V z 10 [some (.ref a0), some (.int a1)] [.int x5, .int (mI M b2 a1.toNatClampNeg)] M5 0 0
  refine v_icmp_lt (tgt := 17) hz dX12_isBald_10 (by decide) (fun hc => ?_) (fun hc => ?_)
  · replace h := (if_pos hc).symm.trans h
    refine v_iconst hz (v := (0 : Int32)) (by decide) dX12_isBald_17 ?_
    obtain ⟨rfl, rfl⟩ := sp_inv h
    exact v_zret hz (Or.inl rfl) dX12_isBald_18 (by decide) (by decide)
  · replace h := (if_neg hc).symm.trans h
    refine v_iconst hz (v := (1 : Int32)) (by decide) dX12_isBald_13 ?_
    refine v_goto (tgt := 18) hz dX12_isBald_14 (by decide) ?_
    obtain ⟨rfl, rfl⟩ := sp_inv h
    exact v_zret hz (Or.inr rfl) dX12_isBald_18 (by decide) (by decide)
