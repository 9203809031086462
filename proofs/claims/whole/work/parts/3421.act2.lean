/-! ===== act ===== -/
theorem n10 : ¬ (1 : Int32) = 0 := by decide
set_option maxHeartbeats 1000000 in
theorem m_act {M : Mem} {n : Nat} (h : Inv M n) (x y z : Int32) : Ok1 (fun M => fX11_act M 0 x y z) (fun M => fX12_act M 55 x y z) M := by
  obtain ⟨s, lw, bdn, o⟩ := Op_of h
  obtain ⟨q, hq, e1, e2⟩ := Op_n o
  have hS := o.1
  have eH := o.2.2.2.2.1
  -- no body runs
  have none : ∀ N, N.1 = M.1 → N.2.2 = M.2.2 → (∀ b, b ≠ 16 → b ≠ 17 → N.2.1 b = M.2.1 b) → mI N 16 2 = 0 → Inv (stI N 55 34 0) n := by
    intro N n1 n2 n3 n4
    have rI : ∀ b i, b ≠ 16 → b ≠ 17 → mI N b i = mI M b i := fun b i b1 b2 => congrFun (n3 b b1 b2) i
    refine Inv_x h n1 (fun b hb => by rw [row_st (by omega)]; exact n3 b (by omega) (by omega)) (fun f _ => by rw [mI_stI, if_neg (by omega)]; exact rI _ _ (by omega) (by omega)) (fun f f1 f2 => by rw [mI_stI, if_neg (by omega)]; exact rI _ _ (by omega) (by omega)) (IText_c h.2.2.2.2.1 (by rw [mI_stI, if_neg (by omega)]; exact rI _ _ (by omega) (by omega)) (by rw [mI_stI, if_neg (by omega)]; exact rI _ _ (by omega) (by omega)) (fun b hb => by rw [row_st (by omega)]; exact n3 b (by omega) (by omega))) ⟨0, by omega, ?_, ?_, fun i _ hi => absurd hi (Nat.not_lt_zero _)⟩ (ITape_c h.2.2.2.2.2.2.1 n2 (fun b hb => by rw [row_st (by omega)]; exact n3 b (by omega) (by omega)))
    · rw [mI_stI, if_neg (by omega), n4]
      rfl
    · rw [mI_stI, if_pos ⟨rfl, rfl⟩]
      rfl
  obtain ⟨A, eA⟩ : ∃ A, A = stI M 16 2 0 := ⟨_, rfl⟩
  have hSA : Sh A := by rw [eA]; exact Sh_1 rfl hS
  have rA : ∀ b, b ≠ 16 → A.2.1 b = M.2.1 b := fun b hb => by rw [eA, row_st hb]
  have rAI : ∀ b i, b ≠ 16 → mI A b i = mI M b i := fun b i hb => congrFun (rA b hb) i
  have e1A : mI A 31 4 = nI q := (rAI _ _ (by omega)).trans e1
  rcases cs_person hq x with ⟨p, hp, hp6, rfl, c1, m1⟩ | ⟨c0, m0⟩
  · have ip := inb_n hp6 (by decide : 6 < 1000000)
    have tp := tn (show p < 1000000 by omega)
    obtain ⟨k, hk, ek⟩ := o.2.2.2.2.2.1.1.2.2.2.1 p hp6
    have ek57 : mI M 57 p = nI k := by rw [hM_1 hp6]; exact ek
    have ekc : hC M 31 1 p = nI k := by rw [eH]; exact ek
    obtain ⟨v, ev⟩ : ∃ v, v = mI M 58 p := ⟨_, rfl⟩
    have ev34 : mI M 34 p = v := by rw [cm_2 eH hp6, ev]
    obtain ⟨B, eB⟩ : ∃ B, B = stI (stI A 16 0 (nI p)) 16 1 v := ⟨_, rfl⟩
    have hSB : Sh B := by rw [eB]; exact Sh_1 rfl hSA
    have rB : ∀ b, b ≠ 16 → B.2.1 b = M.2.1 b := fun b hb => by rw [eB, row_st hb, row_st hb]; exact rA b hb
    have hCB : hC B 31 = hC M 31 := hC_c (fun b b1 b2 => rB b (by omega))
    have kB : fX3_kindOf B 31 (nI p) = some (22 + k, B) := p_kindOf (Hl_31 hSB) (Kd_s hSB) hp6 (by rw [hCB]; exact ekc) hk
    have B0 : mI B 16 0 = nI p := by rw [eB, mI_stI, if_neg (by omega), mI_stI, if_pos ⟨rfl, rfl⟩]
    have B1 : mI B 16 1 = v := by rw [eB, mI_stI, if_pos ⟨rfl, rfl⟩]
    have B2 : mI B 16 2 = 0 := by rw [eB, mI_stI, if_neg (by omega), mI_stI, if_neg (by omega), eA, mI_stI, if_pos ⟨rfl, rfl⟩]
    have u34 : mI (stI A 16 0 (nI p)) 34 p = v := by rw [mI_stI, if_neg (by omega), rAI _ _ (by omega)]; exact ev34
    have cls : fX11_act M 0 (nI p) y z = if y = (0 : Int32) then vt10_bows B (22 + k) 16 z else if y = (1 : Int32) then vt10_walks B (22 + k) 16 z else if y = (2 : Int32) then vt10_tells B (22 + k) 16 z else some ((0 : Int32), B) := by
      have bdx : ∀ f : Option (Int32 × Mem), (bd f fun x17 M17 => some (x17, M17)) = f := fun f => by
        cases f <;> rfl
      have c1' : fX11_isPerson (stI M 16 2 0) 0 (nI p) = some (1, A) := by rw [← eA]; exact c1 A hSA e1A
      have kB' : fX3_kindOf (stI (stI A 16 0 (nI p)) 16 1 v) 31 (nI p) = some (22 + k, B) := by rw [← eB]; exact kB
      simp only [fX11_act, k_0 hS, ck_t, r_0_14 hS, rb_s, k_16 hS, c1', bd_s, n10, if_false, k_0 hSA, r_0_14 hSA, k_16 hSA, mR_stI, r_0_0 hSA, k_31 hSA, r_31_6 hSA, k_34 hSA, g_34 hSA, ip, tp, u34, kB', k_0 hSB, r_0_14 hSB, bdx]
    have cd0 : CD B B [] := ⟨rfl, rfl, fun _ _ _ => rfl, rfl, rfl, B2, fun i hi => absurd hi (Nat.not_lt_zero _)⟩
    -- class and model run the same bodies
    have go : ∀ (fc : Mem → Option (Int32 × Mem)) (fm : Mem → Option (Int32 × Mem)) (r : Int32 × List Int32), r.2.length ≤ 20 → Cx (CD B) fc r → (∀ M0, Sh M0 → mI M0 57 p = nI k → mI M0 58 p = v → Cx (MD M0) fm r) → fX11_act M 0 (nI p) y z = fc B → (∀ N, Sh N → mI N 55 1 = nI q → mI N 57 p = nI k → fX12_act N 55 (nI p) y z = fm (stI N 55 34 0)) → Ok1 (fun M => fX11_act M 0 (nI p) y z) (fun M => fX12_act M 55 (nI p) y z) M := by
      intro fc fm r hr hc hm e3 e4
      obtain ⟨N, n1, n2⟩ := hc B [] cd0 (by show 0 + r.2.length ≤ 20; omega)
      obtain ⟨d1, d2, d3, d4, d5, d6, d7⟩ := n2
      have hSN : Sh N := Sh_1 d1 hSB
      have rN : ∀ b, b ≠ 16 → b ≠ 17 → N.2.1 b = M.2.1 b := fun b b1 b2 => (d3 b b1 b2).trans (rB b b1)
      have rNI : ∀ b i, b ≠ 16 → b ≠ 17 → mI N b i = mI M b i := fun b i b1 b2 => congrFun (rN b b1 b2) i
      obtain ⟨C, eC⟩ : ∃ C, C = stI N 55 34 0 := ⟨_, rfl⟩
      have hSC : Sh C := by rw [eC]; exact Sh_1 rfl hSN
      have rC : ∀ b, b ≠ 55 → C.2.1 b = N.2.1 b := fun b hb => by rw [eC, row_st hb]
      have kC : mI C 57 p = nI k := (congrFun (rC 57 (by decide)) p).trans ((rNI 57 p (by decide) (by decide)).trans ek57)
      have vC : mI C 58 p = v := (congrFun (rC 58 (by decide)) p).trans ((rNI 58 p (by decide) (by decide)).trans ev.symm)
      have md0 : MD C C [] := ⟨rfl, rfl, fun _ _ _ => rfl, fun _ _ => rfl, by rw [eC, mI_stI, if_pos ⟨rfl, rfl⟩]; rfl, fun i hi => absurd hi (Nat.not_lt_zero _)⟩
      obtain ⟨P, p1, p2, p3, p4, p5, p6, p7⟩ := hm C hSC kC vC C [] md0 (by show 0 + r.2.length ≤ 20; omega)
      refine ⟨r.1, N, P, n, k_55 hSN, by rw [← n1]; exact e3, ?_, ?_⟩
      · show fX12_act N 55 (nI p) y z = some (r.1, P)
        rw [e4 N hSN ((rNI 55 1 (by decide) (by decide)).trans e2) ((rNI 57 p (by decide) (by decide)).trans ek57), ← eC]
        exact p1
      · have rP : ∀ b, b ≠ 16 → b ≠ 17 → b ≠ 55 → b ≠ 77 → P.2.1 b = M.2.1 b := fun b b1 b2 b3 b4 => (p4 b b3 b4).trans ((rC b b3).trans (rN b b1 b2))
        have rPI : ∀ b i, b ≠ 16 → b ≠ 17 → b ≠ 55 → b ≠ 77 → mI P b i = mI M b i := fun b i b1 b2 b3 b4 => congrFun (rP b b1 b2 b3 b4) i
        have rf : ∀ f, f ≠ 34 → mI P 55 f = mI M 55 f := fun f hf => by
          rw [p5 f hf, eC, mI_stI, if_neg (by omega)]
          exact rNI 55 f (by decide) (by decide)
        have rP16 : ∀ b, b = 16 ∨ b = 17 → P.2.1 b = N.2.1 b := fun b hb => (p4 b (by omega) (by omega)).trans (rC b (by omega))
        refine Inv_x h (p2.trans (by rw [eC]; exact d1.trans (by rw [eB, eA]; rfl))) (fun b hb => rP b (by omega) (by omega) (by omega) (by omega)) (fun f _ => rPI _ _ (by omega) (by omega) (by omega) (by omega)) (fun f _ f2 => rf f f2) (IText_c h.2.2.2.2.1 (rPI _ _ (by omega) (by omega) (by omega) (by omega)) (rf _ (by decide)) (fun b hb => rP b (by omega) (by omega) (by omega) (by omega))) ⟨r.2.length, by omega, ?_, p6, fun i i20 hi => ?_⟩ (ITape_c h.2.2.2.2.2.2.1 ?_ (fun b hb => rP b (by omega) (by omega) (by omega) (by omega)))
        · exact (congrFun (rP16 16 (Or.inl rfl)) 2).trans d6
        · have a1 := d7 i hi
          have a2 := p7 i hi
          have a3 : mI P 17 i = mI N 17 i := congrFun (rP16 17 (Or.inr rfl)) i
          rw [a3]
          exact Option.some.inj (a1.symm.trans a2)
        · rw [p3, eC]
          show N.2.2 = M.2.2
          rw [d2, eB, eA]
          rfl
    have mdl : ∀ N, Sh N → mI N 55 1 = nI q → ∀ r, (fX12_within (stI N 55 34 0) y 0 2 = some (r, stI N 55 34 0)) → fX12_act N 55 (nI p) y z = if r = 0 then some ((0 : Int32), stI N 55 34 0) else (rb (mR (stI N 55 34 0) 55 2) fun b5 => ck (isK (stI N 55 34 0) b5 14) <| ck (inb (nI p) (mG (stI N 55 34 0) b5)) <| if y = 0 then (bd (fX12_bows (stI N 55 34 0) 55 (nI p) (mI (stI N 55 34 0) b5 (nI p).toNatClampNeg) z) fun x10 M10 => some (x10, M10)) else (if y = (1 : Int32) then (bd (fX12_walks (stI N 55 34 0) 55 (nI p) (mI (stI N 55 34 0) b5 (nI p).toNatClampNeg) z) fun x9 M9 => some (x9, M9)) else (bd (fX12_tells (stI N 55 34 0) 55 (nI p) (mI (stI N 55 34 0) b5 (nI p).toNatClampNeg) z) fun x8 M8 => some (x8, M8)))) := by
      intro N hN eq r hr
      have hN2 : Sh (stI N 55 34 0) := Sh_1 rfl hN
      have eq2 : mI (stI N 55 34 0) 55 1 = nI q := by rw [mI_stI, if_neg (by omega)]; exact eq
      unfold fX12_act
      rw [k_55 hN, ck_t, m1 _ hN2 eq2, bd_s, if_neg n10, hr, bd_s]
      rw [k_55 hN2, ck_t]
    have fin : ∀ N, Sh N → mI N 57 p = nI k → ∀ f : Int32 → Option (Int32 × Mem), (rb (mR (stI N 55 34 0) 55 2) fun b5 => ck (isK (stI N 55 34 0) b5 14) <| ck (inb (nI p) (mG (stI N 55 34 0) b5)) <| f (mI (stI N 55 34 0) b5 (nI p).toNatClampNeg)) = f (nI k) := by
      intro N hN ekN f
      have hN2 : Sh (stI N 55 34 0) := Sh_1 rfl hN
      have ek2 : mI (stI N 55 34 0) 57 p = nI k := by rw [mI_stI, if_neg (by omega)]; exact ekN
      rw [r_55_2 hN2, rb_s, k_57 hN2, ck_t, g_57 hN2, ip, ck_t, tp, ek2]
    have bdx : ∀ f : Option (Int32 × Mem), (bd f fun x17 M17 => some (x17, M17)) = f := fun f => by
      cases f <;> rfl
    by_cases y0 : y = 0
    · subst y0
      refine go (fun M => vt10_bows M (22 + k) 16 z) (fun M => fX12_bows M 55 (nI p) (nI k) z) (aBows (nI p) v k z) (aAct_len hk).1 (c_bows hSB B0 B1 hk z) (fun M0 a1 _ a3 => m_bows a1 hp6 hk a3 z) (by rw [cls, if_pos rfl]) (fun N a1 a2 a3 => ?_)
      rw [mdl N a1 a2 1 (wi_1 (L := 0) (by decide) (by decide)), if_neg n10, fin N a1 a3 (fun w => if (0 : Int32) = 0 then (bd (fX12_bows (stI N 55 34 0) 55 (nI p) w z) fun x10 M10 => some (x10, M10)) else (if (0 : Int32) = (1 : Int32) then (bd (fX12_walks (stI N 55 34 0) 55 (nI p) w z) fun x9 M9 => some (x9, M9)) else (bd (fX12_tells (stI N 55 34 0) 55 (nI p) w z) fun x8 M8 => some (x8, M8))))]
      show (if (0 : Int32) = 0 then _ else _) = _
      rw [if_pos rfl, bdx]
    by_cases y1 : y = 1
    · subst y1
      refine go (fun M => vt10_walks M (22 + k) 16 z) (fun M => fX12_walks M 55 (nI p) (nI k) z) (aWalks (nI p) v k z) (aAct_len hk).2.1 (c_walks hSB B0 B1 hk z) (fun M0 a1 a2 a3 => m_walks a1 hp6 hk a2 a3 z) (by rw [cls, if_neg n10, if_pos rfl]) (fun N a1 a2 a3 => ?_)
      rw [mdl N a1 a2 1 (wi_1 (L := 0) (by decide) (by decide)), if_neg n10, fin N a1 a3 (fun w => if (1 : Int32) = 0 then (bd (fX12_bows (stI N 55 34 0) 55 (nI p) w z) fun x10 M10 => some (x10, M10)) else (if (1 : Int32) = (1 : Int32) then (bd (fX12_walks (stI N 55 34 0) 55 (nI p) w z) fun x9 M9 => some (x9, M9)) else (bd (fX12_tells (stI N 55 34 0) 55 (nI p) w z) fun x8 M8 => some (x8, M8))))]
      show (if (1 : Int32) = 0 then _ else _) = _
      rw [if_neg n10, if_pos rfl, bdx]
    by_cases y2 : y = 2
    · subst y2
      refine go (fun M => vt10_tells M (22 + k) 16 z) (fun M => fX12_tells M 55 (nI p) (nI k) z) (aTells (nI p) v k z) (aAct_len hk).2.2 (c_tells hSB B0 B1 hk z) (fun M0 a1 a2 a3 => m_tells a1 hp6 hk a2 a3 z) (by rw [cls, if_neg (by decide), if_neg (by decide), if_pos rfl]) (fun N a1 a2 a3 => ?_)
      rw [mdl N a1 a2 1 (wi_1 (L := 0) (by decide) (by decide)), if_neg n10, fin N a1 a3 (fun w => if (2 : Int32) = 0 then (bd (fX12_bows (stI N 55 34 0) 55 (nI p) w z) fun x10 M10 => some (x10, M10)) else (if (2 : Int32) = (1 : Int32) then (bd (fX12_walks (stI N 55 34 0) 55 (nI p) w z) fun x9 M9 => some (x9, M9)) else (bd (fX12_tells (stI N 55 34 0) 55 (nI p) w z) fun x8 M8 => some (x8, M8))))]
      show (if (2 : Int32) = 0 then _ else _) = _
      rw [if_neg (by decide), if_neg (by decide), bdx]
    · have wn : ∀ N, fX12_within N y 0 2 = some (0, N) := by
        intro N
        rcases rng (L := 3) (K := 2) (n := 3) y rfl rfl (by decide) with ⟨w, hw, ew, h1, h2, h3, h4, h5⟩ | h1 | ⟨h1, h2, h3, h4, h5⟩
        · exfalso
          rcases (show w = 0 ∨ w = 1 ∨ w = 2 by omega) with rfl | rfl | rfl
          · exact y0 ew
          · exact y1 ew
          · exact y2 ew
        · exact wi_0 h1
        · exact wi_2 h5
      refine ⟨0, B, stI B 55 34 0, n, k_55 hSB, ?_, ?_, none B (by rw [eB, eA]; rfl) (by rw [eB, eA]; rfl) (fun b b1 b2 => rB b b1) B2⟩
      · show fX11_act M 0 (nI p) y z = _
        rw [cls, if_neg y0, if_neg y1, if_neg y2]
      · show fX12_act B 55 (nI p) y z = _
        rw [mdl B hSB ((congrFun (rB 55 (by decide)) 1).trans e2) 0 (wn _), if_pos rfl]
  · refine ⟨0, A, stI A 55 34 0, n, k_55 hSA, ?_, ?_, none A (by rw [eA]; rfl) (by rw [eA]; rfl) (fun b b1 b2 => rA b b1) (by rw [eA, mI_stI, if_pos ⟨rfl, rfl⟩])⟩
    · have c0' : fX11_isPerson (stI M 16 2 0) 0 x = some (0, A) := by rw [← eA]; exact c0 A hSA e1A
      simp only [fX11_act, k_0 hS, ck_t, r_0_14 hS, rb_s, k_16 hS, c0', bd_s, if_true]
    · have hA2 : Sh (stI A 55 34 0) := Sh_1 rfl hSA
      have eq2 : mI (stI A 55 34 0) 55 1 = nI q := by rw [mI_stI, if_neg (by omega), rAI _ _ (by omega)]; exact e2
      show fX12_act A 55 x y z = _
      unfold fX12_act
      rw [k_55 hSA, ck_t, m0 _ hA2 eq2, bd_s, if_pos rfl]
