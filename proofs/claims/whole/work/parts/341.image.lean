/-! ===== the image ===== -/
theorem p_rtake {M : Mem} {d a L : Nat} (kd : isK M d 5 = true) (ka : isK M a 5 = true) (rd : mR M d 1 = some (d + 1)) (ra : mR M a 1 = some (a + 1)) (kd1 : isK M (d + 1) 14 = true) (ka1 : isK M (a + 1) 14 = true) (gd : mG M (d + 1) = 3 * L) (ga : mG M (a + 1) = 3 * L) (hL : L ≤ 10) : fX5_take M d a = some ((), cpI (stI M d 2 (mI M a 2)) (a + 1) (d + 1) 0 0 (3 * L)) := by
  have e1 : Int32.ofNat (3 * L) = nI (3 * L) := rfl
  have ok : cpok 0 0 (nI (3 * L)) (3 * L) (3 * L) = true := by
    simp [cpok, nI_pos (show 3 * L < 2 ^ 31 by omega), tn (show 3 * L < 1000000 by omega)]
  simp only [fX5_take, kd, ka, mR_stI, rd, ra, kd1, ka1, gd, ga, ck_t, rb_s, e1, ok, tl0, tn (show 3 * L < 1000000 by omega)]
/-- three rows taken over -/
def Rt (M N : Mem) (d1 a1 d2 a2 d3 a3 : Nat) : Prop := N.1 = M.1 ∧ N.2.2 = M.2.2 ∧ (∀ b, b ≠ d1 → b ≠ d1 + 1 → b ≠ d2 → b ≠ d2 + 1 → b ≠ d3 → b ≠ d3 + 1 → N.2.1 b = M.2.1 b) ∧ (mI N d1 2 = mI M a1 2 ∧ mI N d1 0 = mI M d1 0 ∧ ∀ j, j < 15 → mI N (d1 + 1) j = mI M (a1 + 1) j) ∧ (mI N d2 2 = mI M a2 2 ∧ mI N d2 0 = mI M d2 0 ∧ ∀ j, j < 30 → mI N (d2 + 1) j = mI M (a2 + 1) j) ∧ (mI N d3 2 = mI M a3 2 ∧ mI N d3 0 = mI M d3 0 ∧ ∀ j, j < 24 → mI N (d3 + 1) j = mI M (a3 + 1) j)
theorem Rt_of {M : Mem} {d1 a1 d2 a2 d3 a3 : Nat} (hh : (d1 = 7 ∧ a1 = 1 ∧ d2 = 9 ∧ a2 = 3 ∧ d3 = 11 ∧ a3 = 5) ∨ (d1 = 1 ∧ a1 = 7 ∧ d2 = 3 ∧ a2 = 9 ∧ d3 = 5 ∧ a3 = 11)) : Rt M (cpI (stI (cpI (stI (cpI (stI M d1 2 (mI M a1 2)) (a1 + 1) (d1 + 1) 0 0 (3 * 5)) d2 2 (mI (cpI (stI M d1 2 (mI M a1 2)) (a1 + 1) (d1 + 1) 0 0 (3 * 5)) a2 2)) (a2 + 1) (d2 + 1) 0 0 (3 * 10)) d3 2 (mI (cpI (stI (cpI (stI M d1 2 (mI M a1 2)) (a1 + 1) (d1 + 1) 0 0 (3 * 5)) d2 2 (mI (cpI (stI M d1 2 (mI M a1 2)) (a1 + 1) (d1 + 1) 0 0 (3 * 5)) a2 2)) (a2 + 1) (d2 + 1) 0 0 (3 * 10)) a3 2)) (a3 + 1) (d3 + 1) 0 0 (3 * 8)) d1 a1 d2 a2 d3 a3 := by
  refine ⟨rfl, rfl, fun b b1 b2 b3 b4 b5 b6 => ?_, ⟨?_, ?_, fun j hj => ?_⟩, ⟨?_, ?_, fun j hj => ?_⟩, ⟨?_, ?_, fun j hj => ?_⟩⟩
  · funext j
    show mI _ b j = mI M b j
    simp only [mI_cpI, mI_stI]
    rw [if_neg (by omega), if_neg (by omega), if_neg (by omega), if_neg (by omega), if_neg (by omega), if_neg (by omega)]
  all_goals (rcases hh with ⟨rfl, rfl, rfl, rfl, rfl, rfl⟩ | ⟨rfl, rfl, rfl, rfl, rfl, rfl⟩ <;> simp [mI_cpI, mI_stI] <;> try omega)
theorem RSeen_cp {M N : Mem} {a d : Nat} {S T : Nat → Int32} (h : RSeen M a S) (e1 : mI N d 2 = mI M a 2) (e2 : ∀ j, j < 15 → mI N (d + 1) j = mI M (a + 1) j) (es : ∀ j, j < 130 → T j = S j) : RSeen N d T := by
  obtain ⟨c, h1, h2, h3, h4, h5⟩ := h
  refine ⟨c, h1, e1.trans h2, (es _ (by omega)).trans h3, fun i hi => ?_, fun i hi => ?_⟩
  · rw [e2 _ (by omega), e2 _ (by omega), e2 _ (by omega), es _ (by omega), es _ (by omega), es _ (by omega)]
    exact h4 i hi
  · rw [es _ (by omega), es _ (by omega)]
    exact h5 i hi
theorem RPlan_cp {M N : Mem} {a d : Nat} {S T : Nat → Int32} (h : RPlan M a S) (e1 : mI N d 2 = mI M a 2) (e2 : ∀ j, j < 30 → mI N (d + 1) j = mI M (a + 1) j) (es : ∀ j, j < 130 → T j = S j) : RPlan N d T := by
  obtain ⟨c, h1, h2, h3, h4, h5⟩ := h
  refine ⟨c, h1, e1.trans h2, (es _ (by omega)).trans h3, fun i hi => ?_, fun i hi => ?_⟩
  · rw [e2 _ (by omega), e2 _ (by omega), es _ (by omega), es _ (by omega)]
    exact h4 i hi
  · rw [es _ (by omega), es _ (by omega)]
    exact h5 i hi
theorem RBook_cp {M N : Mem} {a d : Nat} {S T : Nat → Int32} (h : RBook M a S) (e1 : mI N d 2 = mI M a 2) (e2 : ∀ j, j < 24 → mI N (d + 1) j = mI M (a + 1) j) (es : ∀ j, j < 130 → T j = S j) : RBook N d T := by
  obtain ⟨c, h1, h2, h3, h4, h5⟩ := h
  refine ⟨c, h1, e1.trans h2, (es _ (by omega)).trans h3, fun i hi => ?_, fun i hi => ?_⟩
  · rw [e2 _ (by omega), e2 _ (by omega), es _ (by omega), es _ (by omega)]
    exact h4 i hi
  · rw [es _ (by omega)]
    exact h5 i hi
theorem Fs_Ft {M N : Mem} {o s : Nat} (h : Ft M N o s) (ho : o = 31 ∨ o = 39 ∨ o = 47) : Fs M N := by
  refine ⟨by unfold mN; rw [h.1]; rfl, fun a => by unfold mK; rw [h.1]; rfl, fun a => by unfold mG; rw [h.1]; rfl, fun a i hh => ?_⟩
  have : mR N a i = mR (stR M o 1 (some s)) a i := by unfold mR; rw [h.1]
  rw [this, mR_stR, if_neg (by omega)]
theorem Ft_1 {M N : Mem} {o s : Nat} (h : Ft M N o s) : mR N o 1 = some s := by
  have : mR N o 1 = mR (stR M o 1 (some s)) o 1 := by unfold mR; rw [h.1]
  rw [this, mR_stR, if_pos ⟨rfl, rfl⟩]
set_option maxHeartbeats 1000000 in
theorem m_image {M : Mem} {n : Nat} (h : Inv M n) : Ok1 (fun M => fX11_image M 0) (fun M => fX12_image M 55) M := by
  obtain ⟨s0, lw, bd, o⟩ := Op_of h
  obtain ⟨q, hq, e1, e2⟩ := Op_n o
  obtain ⟨h1, h2, h3, h4, h5, h6, h7, h8⟩ := id h
  obtain ⟨g1, g2, g3, ⟨kk, q1, q2, q3⟩, gs, gp, gb⟩ := id h2
  have hS := h1
  -- the class
  obtain ⟨A, eA⟩ : ∃ A, A = stI M 0 5 1 := ⟨_, rfl⟩
  have hSA : Sh A := by rw [eA]; exact Sh_1 rfl hS
  have rA : ∀ b, b ≠ 0 → A.2.1 b = M.2.1 b := fun b hb => by rw [eA, row_st hb]
  have hCA : hC A 31 = hC M 31 := hC_c (fun b b1 b2 => rA b (by omega))
  have RA : ∀ a i, mR A a i = mR M a i := by rw [eA]; exact fun _ _ => rfl
  obtain ⟨B, b1, b2, b3⟩ := p_take (M := A) (d := 47) (o := 31) (s := sidO kk) hSA (Or.inr (Or.inl ⟨rfl, rfl⟩)) ((RA 31 1).trans q2) (by rw [hCA, o.2.2.2.2.1]; exact o.2.2.2.2.2.1.1.2.2.2.2.2)
  have fB := Fs_Ft b2 (by omega)
  have hSB : Sh B := Fs_Sh fB hSA
  have rB : ∀ b, b < 47 ∨ 55 ≤ b → B.2.1 b = A.2.1 b := fun b hb => b2.2.2 b (by omega)
  have rt := Rt_of (M := B) (d1 := 7) (a1 := 1) (d2 := 9) (a2 := 3) (d3 := 11) (a3 := 5) (Or.inl ⟨rfl, rfl, rfl, rfl, rfl, rfl⟩)
  have t1 := p_rtake (M := B) (d := 7) (a := 1) (L := 5) (k_7 hSB) (k_1 hSB) (r_7_1 hSB) (r_1_1 hSB) (k_8 hSB) (k_2 hSB) (g_8 hSB) (g_2 hSB) (by decide)
  obtain ⟨C, eC⟩ : ∃ C, C = cpI (stI B 7 2 (mI B 1 2)) (1 + 1) (7 + 1) 0 0 (3 * 5) := ⟨_, rfl⟩
  rw [← eC] at t1 rt
  have hSC : Sh C := by rw [eC]; exact Sh_1 rfl hSB
  have t2 := p_rtake (M := C) (d := 9) (a := 3) (L := 10) (k_9 hSC) (k_3 hSC) (r_9_1 hSC) (r_3_1 hSC) (k_10 hSC) (k_4 hSC) (g_10 hSC) (g_4 hSC) (by decide)
  obtain ⟨D, eD⟩ : ∃ D, D = cpI (stI C 9 2 (mI C 3 2)) (3 + 1) (9 + 1) 0 0 (3 * 10) := ⟨_, rfl⟩
  rw [← eD] at t2 rt
  have hSD : Sh D := by rw [eD]; exact Sh_1 rfl hSC
  have t3 := p_rtake (M := D) (d := 11) (a := 5) (L := 8) (k_11 hSD) (k_5 hSD) (r_11_1 hSD) (r_5_1 hSD) (k_12 hSD) (k_6 hSD) (g_12 hSD) (g_6 hSD) (by decide)
  obtain ⟨E, eE⟩ : ∃ E, E = cpI (stI D 11 2 (mI D 5 2)) (5 + 1) (11 + 1) 0 0 (3 * 8) := ⟨_, rfl⟩
  rw [← eE] at t3 rt
  have hSE : Sh E := by rw [eE]; exact Sh_1 rfl hSD
  obtain ⟨rt1, rt2, rt3, ⟨rs1, rs2, rs3⟩, ⟨rp1, rp2, rp3⟩, ⟨rb1, rb2, rb3⟩⟩ := rt
  have rE : ∀ b, ¬ (7 ≤ b ∧ b ≤ 12) → b ≠ 0 → b < 47 ∨ 55 ≤ b → E.2.1 b = M.2.1 b := fun b x1 x2 x3 => by rw [rt3 b (by omega) (by omega) (by omega) (by omega) (by omega) (by omega), rB b x3, rA b x2]
  have rEI : ∀ b i, ¬ (7 ≤ b ∧ b ≤ 12) → b ≠ 0 → b < 47 ∨ 55 ≤ b → mI E b i = mI M b i := fun b i x1 x2 x3 => congrFun (rE b x1 x2 x3) i
  have rBI : ∀ b i, b ≠ 0 → b < 47 ∨ 55 ≤ b → mI B b i = mI M b i := fun b i x2 x3 => congrFun ((rB b x3).trans (rA b x2)) i
  have e1E : mI E 31 4 = nI q := (rEI 31 4 (by omega) (by omega) (by omega)).trans e1
  have cls : fX11_image M 0 = some (nI q, E) := by
    have b1' : fX3_take (stI M 0 5 1) 47 31 = some ((), B) := by rw [← eA]; exact b1
    simp only [fX11_image, k_0 hS, mR_stI, r_0_6 hS, r_0_0 hS, k_47 hS, ck_t, rb_s, b1', bd_s, k_0 hSB, r_0_7 hSB, r_0_2 hSB, k_7 hSB, t1, k_0 hSC, r_0_8 hSC, r_0_3 hSC, k_9 hSC, t2, k_0 hSD, r_0_9 hSD, r_0_4 hSD, k_11 hSD, t3, k_0 hSE, r_0_0 hSE, k_31 hSE, e1E]
  -- the model
  obtain ⟨F, eF⟩ : ∃ F, F = stI E 55 36 1 := ⟨_, rfl⟩
  have hSF : Sh F := by rw [eF]; exact Sh_1 rfl hSE
  obtain ⟨G, p1, p2⟩ := p_keep hSF (KA_78 hSF)
  have mdl : fX12_image E 55 = some (nI q, wF F 78 G) := by
    have p1' : fX12_keep (stI E 55 36 1) 55 78 = some ((), wF F 78 G) := by rw [← eF]; exact p1
    have e2F : mI (wF F 78 G) 55 1 = nI q := by
      rw [mI_wF, if_neg (by omega), eF, mI_stI, if_neg (by omega), rEI _ _ (by omega) (by omega) (by omega)]
      exact e2
    simp only [fX12_image, k_55 hSE, mR_stI, r_55_37 hSE, ck_t, rb_s, p1', bd_s, isK_wF, k_55 hSF, e2F]
  have r : ∀ b, ¬ (7 ≤ b ∧ b ≤ 12) → b ≠ 0 → b < 47 ∨ 56 ≤ b → b ≠ 78 → (wF F 78 G).2.1 b = M.2.1 b := fun b x1 x2 x3 x4 => by
    rw [show (wF F 78 G).2.1 b = F.2.1 b from va_up_ne _ _ x4, eF, row_st (by omega), rE b x1 x2 (by omega)]
  have rI : ∀ b i, ¬ (7 ≤ b ∧ b ≤ 12) → b ≠ 0 → b < 47 ∨ 56 ≤ b → b ≠ 78 → mI (wF F 78 G) b i = mI M b i := fun b i x1 x2 x3 x4 => congrFun (r b x1 x2 x3 x4) i
  have rf : ∀ f, f ≠ 36 → mI (wF F 78 G) 55 f = mI M 55 f := fun f hf => by
    rw [mI_wF, if_neg (by omega), eF, mI_stI, if_neg (by omega), rEI _ _ (by omega) (by omega) (by omega)]
  have r0 : ∀ f, f ≠ 5 → mI (wF F 78 G) 0 f = mI M 0 f := fun f hf => by
    rw [mI_wF, if_neg (by omega), eF, mI_stI, if_neg (by omega)]
    have : mI E 0 f = mI A 0 f := congrFun ((rt3 0 (by omega) (by omega) (by omega) (by omega) (by omega) (by omega)).trans (rB 0 (by omega))) f
    rw [this, eA, mI_stI, if_neg (by omega)]
  have fs : Fs M (wF F 78 G) := by
    have f1 : Fs M A := Fs_1 (by rw [eA]; rfl)
    have f2 : Fs B (wF F 78 G) := Fs_1 (by rw [eF]; exact rt1)
    exact Fs_t (Fs_t f1 fB) f2
  have fR : ∀ a i, mR (wF F 78 G) a i = mR B a i := fun a i => by
    rw [mR_wF, eF, mR_stI]
    unfold mR
    rw [rt1]
  have esv : ∀ j, j < 130 → sv (wF F 78 G) j = sv M j := fun j hj => by
    have := src_row j hj
    unfold sv
    rcases this with g | ⟨g1, g2⟩
    · exact rI _ _ (by omega) (by omega) (by omega) (by omega)
    · rw [g1]
      exact rf _ (by omega)
  have eh : hV (sv (wF F 78 G)) = hV (sv M) := hV_eq esv
  have e78 : ∀ j, j < 130 → mI (wF F 78 G) 78 j = sv M j := fun j hj => by
    rw [mI_wF, if_pos rfl, p2 j hj]
    have := src_row j hj
    unfold sv
    rw [eF]
    rcases this with g | ⟨g1, g2⟩
    · rw [mI_stI, if_neg (by omega)]
      exact rEI _ _ (by omega) (by omega) (by omega)
    · rw [g1, mI_stI, if_neg (by omega)]
      exact rEI _ _ (by omega) (by omega) (by omega)
  have eh78 : hV (mI (wF F 78 G) 78) = hV (sv M) := hV_eq e78
  refine ⟨nI q, E, wF F 78 G, n, k_55 hSE, cls, mdl, Fs_Sh fs h1, ?_, ILaw_c h3 fs (r0 _ (by decide)) (rf _ (by decide)) (rf _ (by decide)) (fun b hb => r b (by omega) (by omega) (by omega) (by omega)), ILim_c h4 (fun b hb => rI _ _ (by omega) (by omega) (by omega) (by omega)), IText_c h5 (r0 _ (by decide)) (rf _ (by decide)) (fun b hb => r b (by omega) (by omega) (by omega) (by omega)), IDeed_c h6 (rf _ (by decide)) (fun b hb => r b (by omega) (by omega) (by omega) (by omega)), ITape_c h7 ?_ (fun b hb => r b (by omega) (by omega) (by omega) (by omega)), Or.inr ⟨?_, ?_, ?_⟩⟩
  · refine St_c h2 ?_ (by rw [eh]; exact g2) (by rw [eh]; exact g3) ?_ ⟨r _ (by omega) (by omega) (by omega) (by omega), r _ (by omega) (by omega) (by omega) (by omega)⟩ ⟨r _ (by omega) (by omega) (by omega) (by omega), r _ (by omega) (by omega) (by omega) (by omega)⟩ ⟨r _ (by omega) (by omega) (by omega) (by omega), r _ (by omega) (by omega) (by omega) (by omega)⟩ (fun j _ hj _ _ => esv j hj)
    · rw [eh, ← g1]
      exact hC_c (fun b b1 b2 => r b (by omega) (by omega) (by omega) (by omega))
    · rw [fR]
      have : mR B 31 1 = mR (stR A 47 1 (some (sidO kk))) 31 1 := by unfold mR; rw [b2.1]
      rw [this, mR_stR, if_neg (by decide), RA]
  · show F.2.2 = M.2.2
    rw [eF]
    show E.2.2 = M.2.2
    rw [rt2, b2.2.1, eA]
    rfl
  · rw [mI_wF, if_neg (by omega), eF, mI_stI, if_neg (by omega)]
    have : mI E 0 5 = mI A 0 5 := congrFun ((rt3 0 (by omega) (by omega) (by omega) (by omega) (by omega) (by omega)).trans (rB 0 (by omega))) 5
    rw [this, eA, mI_stI, if_pos ⟨rfl, rfl⟩]
  · rw [mI_wF, if_neg (by omega), eF, mI_stI, if_pos ⟨rfl, rfl⟩]
  · have rW : ∀ b, b ≠ 55 → b ≠ 78 → (wF F 78 G).2.1 b = E.2.1 b := fun b x1 x2 => by
      rw [show (wF F 78 G).2.1 b = F.2.1 b from va_up_ne _ _ x2, eF, row_st (by omega)]
    have rWI : ∀ b i, b ≠ 55 → b ≠ 78 → mI (wF F 78 G) b i = mI E b i := fun b i x1 x2 => congrFun (rW b x1 x2) i
    refine ⟨?_, by rw [eh78]; exact g2, by rw [eh78]; exact g3, ⟨kk, q1, by rw [fR]; exact Ft_1 b2, (e78 129 (by decide)).trans q3⟩, RSeen_cp gs ?_ (fun j hj => ?_) e78, RPlan_cp gp ?_ (fun j hj => ?_) e78, RBook_cp gb ?_ (fun j hj => ?_) e78⟩
    · rw [eh78, ← g1]
      have x1 : hC (wF F 78 G) 47 = hC B 47 := hC_c (fun b c1 c2 => by rw [rW b (by omega) (by omega), rt3 b (by omega) (by omega) (by omega) (by omega) (by omega) (by omega)])
      rw [x1, b3, hCA]
    · rw [rWI _ _ (by omega) (by omega), rs1, rBI _ _ (by omega) (by omega)]
    · rw [rWI _ _ (by omega) (by omega), rs3 j hj, rBI _ _ (by omega) (by omega)]
    · rw [rWI _ _ (by omega) (by omega), rp1, rBI _ _ (by omega) (by omega)]
    · rw [rWI _ _ (by omega) (by omega), rp3 j hj, rBI _ _ (by omega) (by omega)]
    · rw [rWI _ _ (by omega) (by omega), rb1, rBI _ _ (by omega) (by omega)]
    · rw [rWI _ _ (by omega) (by omega), rb3 j hj, rBI _ _ (by omega) (by omega)]
set_option maxHeartbeats 1000000 in
theorem m_undo {M : Mem} {n : Nat} (h : Inv M n) : Ok1 (fun M => fX11_undo M 0) (fun M => fX12_undo M 55) M := by
  obtain ⟨h1, h2, h3, h4, h5, h6, h7, h8⟩ := id h
  have hS := h1
  rcases id h8 with ⟨i1, i2⟩ | ⟨i1, i2, i3⟩
  · refine Ok_m h (a := -3) ?_ ?_
    · simp only [fX11_undo, k_0 hS, ck_t, i1, if_true]
    · simp only [fX12_undo, k_55 hS, ck_t, i2, if_true]
  obtain ⟨g1, g2, g3, ⟨kk, q1, q2, q3⟩, gs, gp, gb⟩ := id i3
  obtain ⟨q, hq, eq⟩ := g2.1.1
  have n1 : ¬ (1 : Int32) = 0 := by decide
  -- the class
  obtain ⟨B, b1, b2, b3⟩ := p_take (M := M) (d := 31) (o := 47) (s := sidO kk) hS (Or.inr (Or.inr ⟨rfl, rfl⟩)) q2 (by rw [g1]; exact g2.1.2.2.2.2.2)
  have fB := Fs_Ft b2 (by omega)
  have hSB : Sh B := Fs_Sh fB hS
  have rB : ∀ b, b < 31 ∨ 39 ≤ b → B.2.1 b = M.2.1 b := fun b hb => b2.2.2 b (by omega)
  have rt := Rt_of (M := B) (d1 := 1) (a1 := 7) (d2 := 3) (a2 := 9) (d3 := 5) (a3 := 11) (Or.inr ⟨rfl, rfl, rfl, rfl, rfl, rfl⟩)
  have t1 := p_rtake (M := B) (d := 1) (a := 7) (L := 5) (k_1 hSB) (k_7 hSB) (r_1_1 hSB) (r_7_1 hSB) (k_2 hSB) (k_8 hSB) (g_2 hSB) (g_8 hSB) (by decide)
  obtain ⟨C, eC⟩ : ∃ C, C = cpI (stI B 1 2 (mI B 7 2)) (7 + 1) (1 + 1) 0 0 (3 * 5) := ⟨_, rfl⟩
  rw [← eC] at t1 rt
  have hSC : Sh C := by rw [eC]; exact Sh_1 rfl hSB
  have t2 := p_rtake (M := C) (d := 3) (a := 9) (L := 10) (k_3 hSC) (k_9 hSC) (r_3_1 hSC) (r_9_1 hSC) (k_4 hSC) (k_10 hSC) (g_4 hSC) (g_10 hSC) (by decide)
  obtain ⟨D, eD⟩ : ∃ D, D = cpI (stI C 3 2 (mI C 9 2)) (9 + 1) (3 + 1) 0 0 (3 * 10) := ⟨_, rfl⟩
  rw [← eD] at t2 rt
  have hSD : Sh D := by rw [eD]; exact Sh_1 rfl hSC
  have t3 := p_rtake (M := D) (d := 5) (a := 11) (L := 8) (k_5 hSD) (k_11 hSD) (r_5_1 hSD) (r_11_1 hSD) (k_6 hSD) (k_12 hSD) (g_6 hSD) (g_12 hSD) (by decide)
  obtain ⟨E, eE⟩ : ∃ E, E = cpI (stI D 5 2 (mI D 11 2)) (11 + 1) (5 + 1) 0 0 (3 * 8) := ⟨_, rfl⟩
  rw [← eE] at t3 rt
  have hSE : Sh E := by rw [eE]; exact Sh_1 rfl hSD
  obtain ⟨rt1, rt2, rt3, ⟨rs1, rs2, rs3⟩, ⟨rp1, rp2, rp3⟩, ⟨rb1, rb2, rb3⟩⟩ := rt
  have rE : ∀ b, ¬ (1 ≤ b ∧ b ≤ 6) → b < 31 ∨ 39 ≤ b → E.2.1 b = M.2.1 b := fun b x1 x3 => by rw [rt3 b (by omega) (by omega) (by omega) (by omega) (by omega) (by omega), rB b x3]
  have rEI : ∀ b i, ¬ (1 ≤ b ∧ b ≤ 6) → b < 31 ∨ 39 ≤ b → mI E b i = mI M b i := fun b i x1 x3 => congrFun (rE b x1 x3) i
  have rBI : ∀ b i, b < 31 ∨ 39 ≤ b → mI B b i = mI M b i := fun b i x3 => congrFun (rB b x3) i
  have hCE : hC E 31 = hV (mI M 78) := by
    rw [← g1, ← b3]
    exact hC_c (fun b c1 c2 => rt3 b (by omega) (by omega) (by omega) (by omega) (by omega) (by omega))
  have e1E : mI E 31 4 = nI q := by
    rw [← eq, ← hCE]
    rfl
  have cls : fX11_undo M 0 = some (nI q, E) := by
    simp only [fX11_undo, k_0 hS, ck_t, i1, n1, if_false, r_0_6 hS, r_0_0 hS, k_31 hS, rb_s, b1, bd_s, k_0 hSB, r_0_7 hSB, r_0_2 hSB, k_1 hSB, t1, k_0 hSC, r_0_8 hSC, r_0_3 hSC, k_3 hSC, t2, k_0 hSD, r_0_9 hSD, r_0_4 hSD, k_5 hSD, t3, k_0 hSE, r_0_0 hSE, k_31 hSE, e1E]
  -- the model
  obtain ⟨P, p1, p2, p3, p4, p5, p6⟩ := p_again hSE (KA_78 hSE)
  have hSP : Sh P := Sh_1 p2 hSE
  have e78 : ∀ j, mI E 78 j = mI M 78 j := fun j => rEI 78 j (by omega) (by omega)
  have esv : ∀ j, j < 130 → sv P j = mI M 78 j := fun j hj => (p6 j hj trivial).trans (e78 j)
  have eh : hV (sv P) = hV (mI M 78) := hV_eq esv
  have i2E : mI E 55 36 = 1 := (rEI 55 36 (by omega) (by omega)).trans i2
  have e2P : mI P 55 1 = nI q := by
    rw [← eq, ← eh]
    rfl
  have mdl : fX12_undo E 55 = some (nI q, P) := by
    simp only [fX12_undo, k_55 hSE, ck_t, i2E, n1, if_false, r_55_37 hSE, rb_s, p1, bd_s, k_55 hSP, e2P]
  have r : ∀ b, ¬ (1 ≤ b ∧ b ≤ 6) → b < 31 ∨ 39 ≤ b → ¬ (55 ≤ b ∧ b ≤ 61) → ¬ (70 ≤ b ∧ b ≤ 76) → P.2.1 b = M.2.1 b := fun b x1 x2 x3 x4 => (p4 b x3 x4).trans (rE b x1 x2)
  have rI : ∀ b i, ¬ (1 ≤ b ∧ b ≤ 6) → b < 31 ∨ 39 ≤ b → ¬ (55 ≤ b ∧ b ≤ 61) → ¬ (70 ≤ b ∧ b ≤ 76) → mI P b i = mI M b i := fun b i x1 x2 x3 x4 => congrFun (r b x1 x2 x3 x4) i
  have rf : ∀ f, f ≠ 1 → f ≠ 7 → f ≠ 24 → f ≠ 28 → f ≠ 31 → f ≠ 15 → mI P 55 f = mI M 55 f := fun f f1 f2 f3 f4 f5 f6 => (p5 f f1 f2 f3 f4 f5 f6).trans (rEI _ _ (by omega) (by omega))
  have fs : Fs M P := Fs_t fB (Fs_1 (p2.trans rt1))
  have fR : ∀ a i, mR P a i = mR B a i := fun a i => by
    unfold mR
    rw [p2, rt1]
  have rW : ∀ b, b ≤ 6 → P.2.1 b = E.2.1 b := fun b x => p4 b (by omega) (by omega)
  have rWI : ∀ b i, b ≤ 6 → mI P b i = mI E b i := fun b i x => congrFun (rW b x) i
  refine ⟨nI q, E, P, n, k_55 hSE, cls, mdl, Fs_Sh fs h1, ?_, ILaw_c h3 fs (rI _ _ (by omega) (by omega) (by omega) (by omega)) (rf _ (by decide) (by decide) (by decide) (by decide) (by decide) (by decide)) (rf _ (by decide) (by decide) (by decide) (by decide) (by decide) (by decide)) (fun b hb => r b (by omega) (by omega) (by omega) (by omega)), ?_, IText_c h5 (rI _ _ (by omega) (by omega) (by omega) (by omega)) (rf _ (by decide) (by decide) (by decide) (by decide) (by decide) (by decide)) (fun b hb => r b (by omega) (by omega) (by omega) (by omega)), IDeed_c h6 (rf _ (by decide) (by decide) (by decide) (by decide) (by decide) (by decide)) (fun b hb => r b (by omega) (by omega) (by omega) (by omega)), ITape_c h7 ?_ (fun b hb => r b (by omega) (by omega) (by omega) (by omega)), IImg_c h8 (rI _ _ (by omega) (by omega) (by omega) (by omega)) (rf _ (by decide) (by decide) (by decide) (by decide) (by decide) (by decide)) (fun b hb => r b (by omega) (by omega) (by omega) (by omega)) ?_⟩
  · refine ⟨?_, by rw [eh]; exact g2, by rw [eh]; exact g3, ⟨kk, q1, by rw [fR]; exact Ft_1 b2, (esv 129 (by decide)).trans q3⟩, RSeen_cp gs ?_ (fun j hj => ?_) esv, RPlan_cp gp ?_ (fun j hj => ?_) esv, RBook_cp gb ?_ (fun j hj => ?_) esv⟩
    · rw [eh, ← hCE]
      exact hC_c (fun b c1 c2 => p4 b (by omega) (by omega))
    · rw [rWI _ _ (by omega), rs1, rBI _ _ (by omega)]
    · rw [rWI _ _ (by omega), rs3 j hj, rBI _ _ (by omega)]
    · rw [rWI _ _ (by omega), rp1, rBI _ _ (by omega)]
    · rw [rWI _ _ (by omega), rp3 j hj, rBI _ _ (by omega)]
    · rw [rWI _ _ (by omega), rb1, rBI _ _ (by omega)]
    · rw [rWI _ _ (by omega), rb3 j hj, rBI _ _ (by omega)]
  · refine ILim_c h4 (fun b hb => ?_)
    rw [rWI _ _ (by omega)]
    rcases hb with rfl | rfl | rfl
    · rw [rs2, rBI _ _ (by omega)]
    · rw [rp2, rBI _ _ (by omega)]
    · rw [rb2, rBI _ _ (by omega)]
  · rw [p3, rt2, b2.2.1]
  · rw [fR]
    have : mR B 47 1 = mR (stR M 31 1 (some (sidO kk))) 47 1 := by unfold mR; rw [b2.1]
    rw [this, mR_stR, if_neg (by decide)]
