/-! ===== plan ===== -/
set_option maxHeartbeats 1000000 in
theorem m_planA {M : Mem} {n q : Nat} (h : Inv M n) (x y0 y : Int32) (e2 : mI M 55 1 = nI q) (hc : ∀ r, fX5_add M 3 x y 0 = some r → fX11_plan M 0 x y0 = some r) (hm : ∀ N, Sh N → mI N 55 1 = nI q → fX12_plan N 55 x y0 = gX12_plan_48 N 55 x y0) (hy : (x = 0 ∧ y = 0) ∨ (¬ x = 0 ∧ y = y0)) (hv : x = 0 ∨ (x = 1 ∧ ∃ w, w < 25 ∧ y = nI w) ∨ ((x = 2 ∨ x = 3) ∧ ∃ p, p < 6 ∧ y = nI p)) : Ok1 (fun M => fX11_plan M 0 x y0) (fun M => fX12_plan M 55 x y0) M := by
  have hS := h.1
  obtain ⟨-, ⟨-, -, -, -, hs, hp, hb⟩, -, hl, -⟩ := id h
  obtain ⟨c, c5, ec, es, er, ev⟩ := id hp
  have es' : mI M 55 28 = nI c := es
  by_cases c6 : c = 10
  · subst c6
    refine Ok_m h (a := -4) (hc _ (p_addF (k_3 hS) (L := 10) hl.2.1 ec)) ?_
    show fX12_plan M 55 x y0 = _
    rw [hm M hS e2]
    simp only [gX12_plan_48, k_55 hS, ck_t, es', show nI 10 = 10 by decide, if_true]
  · have cl : c < 10 := by omega
    have n5 : ¬ nI c = 10 := by
      rw [show (10 : Int32) = nI 10 from rfl, eqL (by omega) (by omega)]
      exact c6
    have ic := inb_n cl (by decide : 10 < 1000000)
    have tc := tn (show c < 1000000 by omega)
    obtain ⟨N, eN⟩ : ∃ N, N = stI (stI (stI (stI M (3 + 1) (c * 3) x) (3 + 1) (c * 3 + 1) y) (3 + 1) (c * 3 + 2) 0) 3 2 (nI (c + 1)) := ⟨_, rfl⟩
    have ad := p_add (x := x) (y := y) (z := 0) (k_3 hS) (r_3_1 hS) (k_4 hS) (L := 10) (g_4 hS) hl.2.1 ec cl (by decide)
    rw [← eN] at ad
    have hSN : Sh N := by rw [eN]; exact Sh_1 rfl hS
    have rN : ∀ b, b ≠ 3 → b ≠ 4 → N.2.1 b = M.2.1 b := by
      intro b b1 b2
      rw [eN, row_st b1, row_st b2, row_st b2, row_st b2]
    have rI : ∀ b i, b ≠ 3 → b ≠ 4 → mI N b i = mI M b i := fun b i b1 b2 => congrFun (rN b b1 b2) i
    obtain ⟨P, eP⟩ : ∃ P, P = stI (stI (stI N 73 c x) 55 28 (nI (c + 1))) 74 c y := ⟨_, rfl⟩
    have e2N : mI N 55 1 = nI q := by rw [rI _ _ (by omega) (by omega)]; exact e2
    have esN : mI N 55 28 = nI c := by rw [rI _ _ (by omega) (by omega)]; exact es'
    have rP : ∀ b, b ≠ 55 → ¬ (73 ≤ b ∧ b ≤ 74) → P.2.1 b = N.2.1 b := by
      intro b b1 b2
      rw [eP, row_st (by omega), row_st (by omega), row_st (by omega)]
    have rP5 : ∀ f, f ≠ 28 → mI P 55 f = mI N 55 f := by
      intro f hf
      rw [eP, mI_stI, if_neg (by omega), mI_stI, if_neg (by omega), mI_stI, if_neg (by omega)]
    have u0 : ∀ i, mI P 73 i = if i = c then x else mI M 73 i := by
      intro i
      rw [eP]
      simp only [mI_stI, show ¬ (73 : Nat) = 74 by decide, show ¬ (73 : Nat) = 55 by decide, false_and, if_false, true_and]
      rw [rI _ _ (by omega) (by omega)]
    have u1 : ∀ i, mI P 74 i = if i = c then y else mI M 74 i := by
      intro i
      rw [eP]
      simp only [mI_stI, show ¬ (74 : Nat) = 73 by decide, show ¬ (74 : Nat) = 55 by decide, false_and, if_false, true_and]
      rw [rI _ _ (by omega) (by omega)]
    refine ⟨nI (c + 1), N, P, n, k_55 hSN, hc _ ad, ?_, Inv_rw h (by rw [eP, eN]; rfl) (by rw [eP, eN]; rfl) (fun b b1 b2 b3 => ?_) (fun f f1 f2 f3 => ?_) (fun b hb => ?_) (RSeen_e hs ?_ ?_ (es_s (fun b hb => ?_) ?_)) ?_ (RBook_e hb ?_ ?_ (es_b (fun b hb => ?_) ?_))⟩
    · show fX12_plan N 55 x y0 = _
      rw [hm N hSN e2N, eP]
      rcases hy with ⟨rfl, rfl⟩ | ⟨hx, rfl⟩
      · simp only [gX12_plan_48, k_55 hSN, ck_t, rb_s, nm_s, esN, n5, if_false, r_55_29 hSN, r_55_30 hSN, k_73 hSN, g_73 hSN, k_74 hSN, g_74 hSN, ic, tc, isK_stI, mR_stI, mG_stI, mI_stI, show ¬ (55 : Nat) = 73 by decide, show ¬ (55 : Nat) = 74 by decide, false_and, and_self, if_true, nI_1]
      · simp only [gX12_plan_48, k_55 hSN, ck_t, rb_s, nm_s, esN, n5, hx, if_false, r_55_29 hSN, r_55_30 hSN, k_73 hSN, g_73 hSN, k_74 hSN, g_74 hSN, ic, tc, isK_stI, mR_stI, mG_stI, mI_stI, show ¬ (55 : Nat) = 73 by decide, show ¬ (55 : Nat) = 74 by decide, false_and, and_self, if_true, nI_1]
    · rw [rP b b2 (by omega), rN b (by omega) (by omega)]
    · rw [rP5 f f2, rI _ _ (by omega) (by omega)]
    · have : mI P b 0 = mI N b 0 := congrFun (rP b (by omega) (by omega)) 0
      rw [this, eN]
      rw [mI_stI, if_neg (by omega), mI_stI, if_neg (by omega), mI_stI, if_neg (by omega), mI_stI, if_neg (by omega)]
    · rw [rP _ (by omega) (by omega), rN _ (by omega) (by omega)]
    · rw [rP _ (by omega) (by omega), rN _ (by omega) (by omega)]
    · rw [rP _ (by omega) (by omega), rN _ (by omega) (by omega)]
    · rw [rP5 _ (by decide), rI _ _ (by omega) (by omega)]
    · refine ⟨c + 1, by omega, ?_, ?_, fun i hi => ?_, fun i hi => ?_⟩
      · have : mI P 3 2 = mI N 3 2 := congrFun (rP 3 (by omega) (by omega)) 2
        rw [this, eN, mI_stI, if_pos ⟨rfl, rfl⟩]
      · show mI P 55 28 = _
        rw [eP, mI_stI, if_neg (by omega), mI_stI, if_pos ⟨rfl, rfl⟩]
      · have old := er i hi
        rw [sv_73 hi, sv_74 hi] at old ⊢
        have r2 : ∀ j, mI P 4 j = mI N 4 j := fun j => congrFun (rP 4 (by omega) (by omega)) j
        have ar := add_row (M := M) (a := 3) (c := c) (x := x) (y := y) (z := 0) (w := nI (c + 1)) i
        rw [← eN] at ar
        rw [r2, r2, u0, u1]
        have ar' : mI N 4 (i * 3) = _ ∧ mI N 4 (i * 3 + 1) = _ ∧ mI N 4 (i * 3 + 2) = _ := ar
        rw [ar'.1, ar'.2.1]
        have old' : mI M (3 + 1) (i * 3) = mI M 73 i ∧ mI M (3 + 1) (i * 3 + 1) = mI M 74 i := old
        rw [old'.1, old'.2]
        exact ⟨rfl, rfl⟩
      · have hi5 : i < 10 := by omega
        rw [sv_73 hi5, sv_74 hi5, u0, u1]
        by_cases hic : i = c
        · rw [if_pos hic, if_pos hic]
          exact hv
        · rw [if_neg hic, if_neg hic, ← sv_73 (M := M) hi5, ← sv_74 (M := M) hi5]
          exact ev i (by omega)
    · rw [rP _ (by omega) (by omega), rN _ (by omega) (by omega)]
    · rw [rP _ (by omega) (by omega), rN _ (by omega) (by omega)]
    · rw [rP _ (by omega) (by omega), rN _ (by omega) (by omega)]
    · rw [rP5 _ (by decide), rI _ _ (by omega) (by omega)]
theorem m_plan {M : Mem} {n : Nat} (h : Inv M n) (x y : Int32) : Ok1 (fun M => fX11_plan M 0 x y) (fun M => fX12_plan M 55 x y) M := by
  obtain ⟨s, lw, bd, o⟩ := Op_of h
  obtain ⟨q, hq, e1, e2⟩ := Op_n o
  have hS := o.1
  obtain ⟨-, ⟨-, -, -, -, hs, hp, hb⟩, -, hl, -⟩ := id h
  obtain ⟨c, c5, ec, es, er, ev⟩ := id hp
  by_cases x1 : x = -1
  · subst x1
    refine ⟨0, stI M 3 2 0, stI (stI M 3 2 0) 55 28 0, n, k_55 hS, ?_, ?_, Inv_rw h rfl rfl (fun b b1 b2 b3 => ?_) (fun f f1 f2 f3 => ?_) (fun b hb => ?_) (RSeen_e hs ?_ ?_ (es_s (fun b hb => ?_) ?_)) ?_ (RBook_e hb ?_ ?_ (es_b (fun b hb => ?_) ?_))⟩
    · simp only [fX11_plan, if_true, k_0 hS, r_0_3 hS, k_3 hS, ck_t, rb_s, fX5_clear, bd_s]
    · have hS2 : Sh (stI M 3 2 0) := Sh_1 rfl hS
      simp only [fX12_plan, if_true, k_55 hS2, ck_t]
    · rw [row_st (by omega), row_st (by omega)]
    · rw [mI_stI, if_neg (by omega), mI_stI, if_neg (by omega)]
    · rw [mI_stI, if_neg (by omega), mI_stI, if_neg (by omega)]
    · rw [row_st (by omega), row_st (by omega)]
    · rw [row_st (by omega), row_st (by omega)]
    · rw [row_st (by omega), row_st (by omega)]
    · rw [mI_stI, if_neg (by omega), mI_stI, if_neg (by omega)]
    · refine ⟨0, by omega, ?_, ?_, fun i hi => ?_, fun i hi => absurd hi (Nat.not_lt_zero _)⟩
      · rw [mI_stI, if_neg (by omega), mI_stI, if_pos ⟨rfl, rfl⟩]
        rfl
      · show mI _ 55 28 = _
        rw [mI_stI, if_pos ⟨rfl, rfl⟩]
        rfl
      · have := er i hi
        rw [sv_73 hi, sv_74 hi] at this ⊢
        simpa [mI_stI] using this
    · rw [row_st (by omega), row_st (by omega)]
    · rw [row_st (by omega), row_st (by omega)]
    · rw [row_st (by omega), row_st (by omega)]
    · rw [mI_stI, if_neg (by omega), mI_stI, if_neg (by omega)]
  by_cases x0 : x = 0
  · subst x0
    refine m_planA h 0 y 0 e2 (fun r hr => ?_) (fun N hN eq => ?_) (Or.inl ⟨rfl, rfl⟩) (Or.inl rfl)
    · simp only [fX11_plan, x1, if_false, if_true, k_0 hS, r_0_3 hS, k_3 hS, ck_t, rb_s, hr, bd_s]
      rfl
    · unfold fX12_plan
      rw [if_neg x1, wi_1 (L := 4) (by decide) (by decide), bd_s, if_neg (by decide), if_neg (by decide)]
      unfold gX12_plan_33
      rw [if_pos (by decide)]
  by_cases x2 : x = 1
  · subst x2
    rcases cs_cell y with ⟨d, hd, rfl, d1, d2⟩ | ⟨d1, d2⟩
    · refine m_planA h 1 (nI d) (nI d) e2 (fun r hr => ?_) (fun N hN eq => ?_) (Or.inr ⟨x0, rfl⟩) (Or.inr (Or.inl ⟨rfl, d, hd, rfl⟩))
      · simp only [fX11_plan, x1, x0, if_false, if_true, d1, k_0 hS, r_0_3 hS, k_3 hS, ck_t, rb_s, hr, bd_s]
        rfl
      · unfold fX12_plan
        rw [if_neg x1, wi_1 (L := 4) (by decide) (by decide), bd_s, if_neg (by decide), if_pos rfl, d2, bd_s, if_neg (by decide)]
        unfold gX12_plan_33
        rw [if_pos (by decide)]
    · refine Ok_m h (a := -1) ?_ ?_
      · simp only [fX11_plan, x1, x0, if_false, if_true, d1, bd_s]
      · show fX12_plan M 55 1 y = _
        unfold fX12_plan
        rw [if_neg x1, wi_1 (L := 4) (by decide) (by decide), bd_s, if_neg (by decide), if_pos rfl, d2, bd_s, if_pos rfl]
  by_cases x23 : x = 2 ∨ x = 3
  · rcases cs_person hq y with ⟨p, hpq, hp6, rfl, c1, m1⟩ | ⟨c0, m0⟩
    · refine m_planA h x (nI p) (nI p) e2 (fun r hr => ?_) (fun N hN eq => ?_) (Or.inr ⟨x0, rfl⟩) (Or.inr (Or.inr ⟨x23, p, hp6, rfl⟩))
      · rcases x23 with rfl | rfl
        · simp only [fX11_plan, x1, x0, x2, if_false, if_true, c1 M hS e1, show ¬ (1 : Int32) = 0 by decide, k_0 hS, r_0_3 hS, k_3 hS, ck_t, rb_s, hr, bd_s]
          rfl
        · simp only [fX11_plan, x1, x0, x2, show ¬ (3 : Int32) = 2 by decide, if_false, if_true, c1 M hS e1, show ¬ (1 : Int32) = 0 by decide, k_0 hS, r_0_3 hS, k_3 hS, ck_t, rb_s, hr, bd_s]
          rfl
      · unfold fX12_plan
        rw [if_neg x1, wi_1 (L := 4) (by rcases x23 with rfl | rfl <;> decide) (by rcases x23 with rfl | rfl <;> decide), bd_s, if_neg (by decide), if_neg x2]
        unfold gX12_plan_33
        rw [if_neg (by rcases x23 with rfl | rfl <;> decide), k_55 hN, ck_t, m1 N hN eq, bd_s, if_neg (by decide)]
    · refine Ok_m h (a := -1) ?_ ?_
      · rcases x23 with rfl | rfl
        · simp only [fX11_plan, x1, x0, x2, if_false, if_true, c0 M hS e1, k_0 hS, ck_t, bd_s]
        · simp only [fX11_plan, x1, x0, x2, show ¬ (3 : Int32) = 2 by decide, if_false, if_true, c0 M hS e1, k_0 hS, ck_t, bd_s]
      · show fX12_plan M 55 x y = _
        unfold fX12_plan
        rw [if_neg x1, wi_1 (L := 4) (by rcases x23 with rfl | rfl <;> decide) (by rcases x23 with rfl | rfl <;> decide), bd_s, if_neg (by decide), if_neg x2]
        unfold gX12_plan_33
        rw [if_neg (by rcases x23 with rfl | rfl <;> decide), k_55 hS, ck_t, m0 M hS e2, bd_s, if_pos rfl]
  · have y2 : ¬ x = 2 := fun e => x23 (Or.inl e)
    have y3 : ¬ x = 3 := fun e => x23 (Or.inr e)
    refine Ok_m h (a := -1) ?_ ?_
    · simp only [fX11_plan, x1, x0, x2, y2, y3, if_false]
    · show fX12_plan M 55 x y = _
      unfold fX12_plan
      rcases rng (L := 4) (K := 3) (n := 4) x rfl rfl (by decide) with ⟨w, hw, ew, h1, h2, h3, h4, h5⟩ | h1 | ⟨h1, h2, h3, h4, h5⟩
      · exfalso
        rcases (show w = 0 ∨ w = 1 ∨ w = 2 ∨ w = 3 by omega) with rfl | rfl | rfl | rfl
        · exact x0 ew
        · exact x2 ew
        · exact y2 ew
        · exact y3 ew
      · rw [if_neg x1, wi_0 h1, bd_s, if_pos rfl]
      · rw [if_neg x1, wi_2 h5, bd_s, if_pos rfl]
/-! ===== book ===== -/
set_option maxHeartbeats 1000000 in
theorem m_book {M : Mem} {n : Nat} (h : Inv M n) (x y : Int32) : Ok1 (fun M => fX11_book M 0 x y) (fun M => fX12_book M 55 x y) M := by
  obtain ⟨s, lw, bd, o⟩ := Op_of h
  obtain ⟨q, hq, e1, e2⟩ := Op_n o
  have hS := o.1
  obtain ⟨-, ⟨-, -, -, -, hs, hp, hb⟩, -, hl, -⟩ := id h
  obtain ⟨c, c5, ec, es, er, ev⟩ := id hb
  have es' : mI M 55 31 = nI c := es
  by_cases x1 : x = -1
  · subst x1
    refine ⟨0, stI M 5 2 0, stI (stI M 5 2 0) 55 31 0, n, k_55 hS, ?_, ?_, Inv_rw h rfl rfl (fun b b1 b2 b3 => ?_) (fun f f1 f2 f3 => ?_) (fun b hb => ?_) (RSeen_e hs ?_ ?_ (es_s (fun b hb => ?_) ?_)) (RPlan_e hp ?_ ?_ (es_p (fun b hb => ?_) ?_)) ?_⟩
    · simp only [fX11_book, if_true, k_0 hS, r_0_4 hS, k_5 hS, ck_t, rb_s, fX5_clear, bd_s]
    · have hS2 : Sh (stI M 5 2 0) := Sh_1 rfl hS
      simp only [fX12_book, if_true, k_55 hS2, ck_t]
    · rw [row_st (by omega), row_st (by omega)]
    · rw [mI_stI, if_neg (by omega), mI_stI, if_neg (by omega)]
    · rw [mI_stI, if_neg (by omega), mI_stI, if_neg (by omega)]
    · rw [row_st (by omega), row_st (by omega)]
    · rw [row_st (by omega), row_st (by omega)]
    · rw [row_st (by omega), row_st (by omega)]
    · rw [mI_stI, if_neg (by omega), mI_stI, if_neg (by omega)]
    · rw [row_st (by omega), row_st (by omega)]
    · rw [row_st (by omega), row_st (by omega)]
    · rw [row_st (by omega), row_st (by omega)]
    · rw [mI_stI, if_neg (by omega), mI_stI, if_neg (by omega)]
    · refine ⟨0, by omega, ?_, ?_, fun i hi => ?_, fun i hi => absurd hi (Nat.not_lt_zero _)⟩
      · rw [mI_stI, if_neg (by omega), mI_stI, if_pos ⟨rfl, rfl⟩]
        rfl
      · show mI _ 55 31 = _
        rw [mI_stI, if_pos ⟨rfl, rfl⟩]
        rfl
      · have := er i hi
        rw [sv_75 hi, sv_76 hi] at this ⊢
        simpa [mI_stI] using this
  rcases cs_person hq x with ⟨p, hpq, hp6, rfl, c1, m1⟩ | ⟨c0, m0⟩
  · rcases cs_cell y with ⟨d, hd, rfl, d1, d2⟩ | ⟨d1, d2⟩
    · by_cases c6 : c = 8
      · subst c6
        refine Ok_m h (a := -4) ?_ ?_
        · simp only [fX11_book, x1, if_false, k_0 hS, c1 M hS e1, bd_s, d1, show ¬ (1 : Int32) = 0 by decide, r_0_4 hS, k_5 hS, ck_t, rb_s, p_addF (k_5 hS) (L := 8) hl.2.2 ec]
        · simp only [fX12_book, x1, if_false, k_55 hS, m1 M hS e2, bd_s, d2, show ¬ (1 : Int32) = 0 by decide, ck_t, es', show nI 8 = 8 by decide, if_true]
      · have cl : c < 8 := by omega
        have n5 : ¬ nI c = 8 := by
          rw [show (8 : Int32) = nI 8 from rfl, eqL (by omega) (by omega)]
          exact c6
        have ic := inb_n cl (by decide : 8 < 1000000)
        have tc := tn (show c < 1000000 by omega)
        obtain ⟨N, eN⟩ : ∃ N, N = stI (stI (stI (stI M (5 + 1) (c * 3) (nI p)) (5 + 1) (c * 3 + 1) (nI d)) (5 + 1) (c * 3 + 2) 0) 5 2 (nI (c + 1)) := ⟨_, rfl⟩
        have ad := p_add (x := nI p) (y := nI d) (z := 0) (k_5 hS) (r_5_1 hS) (k_6 hS) (L := 8) (g_6 hS) hl.2.2 ec cl (by decide)
        rw [← eN] at ad
        have hSN : Sh N := by rw [eN]; exact Sh_1 rfl hS
        have rN : ∀ b, b ≠ 5 → b ≠ 6 → N.2.1 b = M.2.1 b := by
          intro b b1 b2
          rw [eN, row_st b1, row_st b2, row_st b2, row_st b2]
        have rI : ∀ b i, b ≠ 5 → b ≠ 6 → mI N b i = mI M b i := fun b i b1 b2 => congrFun (rN b b1 b2) i
        obtain ⟨P, eP⟩ : ∃ P, P = stI (stI (stI N 75 c (nI p)) 55 31 (nI (c + 1))) 76 c (nI d) := ⟨_, rfl⟩
        have e2N : mI N 55 1 = nI q := by rw [rI _ _ (by omega) (by omega)]; exact e2
        have esN : mI N 55 31 = nI c := by rw [rI _ _ (by omega) (by omega)]; exact es'
        have rP : ∀ b, b ≠ 55 → ¬ (75 ≤ b ∧ b ≤ 76) → P.2.1 b = N.2.1 b := by
          intro b b1 b2
          rw [eP, row_st (by omega), row_st (by omega), row_st (by omega)]
        have rP5 : ∀ f, f ≠ 31 → mI P 55 f = mI N 55 f := by
          intro f hf
          rw [eP, mI_stI, if_neg (by omega), mI_stI, if_neg (by omega), mI_stI, if_neg (by omega)]
        have u0 : ∀ i, mI P 75 i = if i = c then nI p else mI M 75 i := by
          intro i
          rw [eP]
          simp only [mI_stI, show ¬ (75 : Nat) = 76 by decide, show ¬ (75 : Nat) = 55 by decide, false_and, if_false, true_and]
          rw [rI _ _ (by omega) (by omega)]
        have u1 : ∀ i, mI P 76 i = if i = c then nI d else mI M 76 i := by
          intro i
          rw [eP]
          simp only [mI_stI, show ¬ (76 : Nat) = 75 by decide, show ¬ (76 : Nat) = 55 by decide, false_and, if_false, true_and]
          rw [rI _ _ (by omega) (by omega)]
        refine ⟨nI (c + 1), N, P, n, k_55 hSN, ?_, ?_, Inv_rw h (by rw [eP, eN]; rfl) (by rw [eP, eN]; rfl) (fun b b1 b2 b3 => ?_) (fun f f1 f2 f3 => ?_) (fun b hb => ?_) (RSeen_e hs ?_ ?_ (es_s (fun b hb => ?_) ?_)) (RPlan_e hp ?_ ?_ (es_p (fun b hb => ?_) ?_)) ?_⟩
        · simp only [fX11_book, x1, if_false, k_0 hS, c1 M hS e1, bd_s, d1, show ¬ (1 : Int32) = 0 by decide, r_0_4 hS, k_5 hS, ck_t, rb_s, ad]
        · rw [eP]
          simp only [fX12_book, x1, if_false, k_55 hSN, m1 N hSN e2N, bd_s, d2, show ¬ (1 : Int32) = 0 by decide, ck_t, rb_s, nm_s, esN, n5, r_55_32 hSN, r_55_33 hSN, k_75 hSN, g_75 hSN, k_76 hSN, g_76 hSN, ic, tc, isK_stI, mR_stI, mG_stI, mI_stI, show ¬ (55 : Nat) = 75 by decide, show ¬ (55 : Nat) = 76 by decide, false_and, and_self, if_true, nI_1]
        · rw [rP b b2 (by omega), rN b (by omega) (by omega)]
        · rw [rP5 f f3, rI _ _ (by omega) (by omega)]
        · have : mI P b 0 = mI N b 0 := congrFun (rP b (by omega) (by omega)) 0
          rw [this, eN]
          rw [mI_stI, if_neg (by omega), mI_stI, if_neg (by omega), mI_stI, if_neg (by omega), mI_stI, if_neg (by omega)]
        · rw [rP _ (by omega) (by omega), rN _ (by omega) (by omega)]
        · rw [rP _ (by omega) (by omega), rN _ (by omega) (by omega)]
        · rw [rP _ (by omega) (by omega), rN _ (by omega) (by omega)]
        · rw [rP5 _ (by decide), rI _ _ (by omega) (by omega)]
        · rw [rP _ (by omega) (by omega), rN _ (by omega) (by omega)]
        · rw [rP _ (by omega) (by omega), rN _ (by omega) (by omega)]
        · rw [rP _ (by omega) (by omega), rN _ (by omega) (by omega)]
        · rw [rP5 _ (by decide), rI _ _ (by omega) (by omega)]
        · refine ⟨c + 1, by omega, ?_, ?_, fun i hi => ?_, fun i hi => ?_⟩
          · have : mI P 5 2 = mI N 5 2 := congrFun (rP 5 (by omega) (by omega)) 2
            rw [this, eN, mI_stI, if_pos ⟨rfl, rfl⟩]
          · show mI P 55 31 = _
            rw [eP, mI_stI, if_neg (by omega), mI_stI, if_pos ⟨rfl, rfl⟩]
          · have old := er i hi
            rw [sv_75 hi, sv_76 hi] at old ⊢
            have r2 : ∀ j, mI P 6 j = mI N 6 j := fun j => congrFun (rP 6 (by omega) (by omega)) j
            have ar := add_row (M := M) (a := 5) (c := c) (x := nI p) (y := nI d) (z := 0) (w := nI (c + 1)) i
            rw [← eN] at ar
            rw [r2, r2, u0, u1]
            have ar' : mI N 6 (i * 3) = _ ∧ mI N 6 (i * 3 + 1) = _ ∧ mI N 6 (i * 3 + 2) = _ := ar
            rw [ar'.1, ar'.2.1]
            have old' : mI M (5 + 1) (i * 3) = mI M 75 i ∧ mI M (5 + 1) (i * 3 + 1) = mI M 76 i := old
            rw [old'.1, old'.2]
            exact ⟨rfl, rfl⟩
          · have hi5 : i < 8 := by omega
            rw [sv_75 hi5, u0]
            by_cases hic : i = c
            · rw [if_pos hic]
              exact ⟨p, hp6, rfl⟩
            · rw [if_neg hic, ← sv_75 (M := M) hi5]
              exact ev i (by omega)
    · refine Ok_m h (a := -1) ?_ ?_
      · simp only [fX11_book, x1, if_false, k_0 hS, c1 M hS e1, bd_s, d1, show ¬ (1 : Int32) = 0 by decide, if_true, ck_t]
      · simp only [fX12_book, x1, if_false, k_55 hS, m1 M hS e2, bd_s, d2, show ¬ (1 : Int32) = 0 by decide, ck_t, if_true]
  · refine Ok_m h (a := -1) ?_ ?_
    · simp only [fX11_book, x1, if_false, k_0 hS, c0 M hS e1, bd_s, if_true, ck_t]
    · simp only [fX12_book, x1, if_false, k_55 hS, m0 M hS e2, bd_s, ck_t, if_true]
/-! ===== looked ===== -/
theorem p_part5 {M : Mem} {a i j L : Nat} {y : Int32} (k1 : isK M a 5 = true) (r1 : mR M a 1 = some (a + 1)) (k2 : isK M (a + 1) 14 = true) (g2 : mG M (a + 1) = 3 * L) (hi : i < L) (hj : j < 3) (hL : L ≤ 10) (ey : y = nI j) : fX5_part M a (nI i) y = some (mI M (a + 1) (i * 3 + j), M) := by
  have e3 : nI i * 3 + y = nI (i * 3 + j) := by rw [ey, show (3 : Int32) = nI 3 from rfl, pk_mul, nI_add]
  simp only [fX5_part, k1, r1, k2, g2, ck_t, rb_s, e3, inb_n (show i * 3 + j < 3 * L by omega) (by omega), tn (show i * 3 + j < 1000000 by omega)]
def aLook (H : Hall) (S : Nat → Int32) : Nat → Nat → Int32
  | 0, _ => -5
  | n + 1, i => if H 3 (S (108 + i)).toNatClampNeg = S (116 + i) then aLook H S n (i + 1) else nI i
theorem m_looked {M : Mem} {n : Nat} (h : Inv M n) : Ok1 (fun M => fX11_looked M 0) (fun M => fX12_looked M 55) M := by
  obtain ⟨s, lw, bd, o⟩ := Op_of h
  have hS := o.1
  have eH := o.2.2.2.2.1
  obtain ⟨-, ⟨-, -, -, -, hs, hp, hb⟩, -, hl, -⟩ := id h
  obtain ⟨c, c8, ec, es, er, ev⟩ := id hb
  have es' : mI M 55 31 = nI c := es
  have cl : ∀ (k m i : Nat), i + k = c → gX11_looked_2 (m + k + 1) M 0 (nI i) = some (aLook (hM M) (sv M) k i, M) := by
    intro k
    induction k with
    | zero =>
      intro m i hi
      rw [gX11_looked_2_s]
      simp only [k_0 hS, r_0_4 hS, k_5 hS, ck_t, rb_s, ec]
      rw [if_pos (by rw [leL (by omega) (by omega)]; omega)]
      rfl
    | succ k ih =>
      intro m i hi
      obtain ⟨p, hp6, ep⟩ := ev i (by omega)
      have q0 : fX5_part M 5 (nI i) 0 = some (mI M (5 + 1) (i * 3), M) := p_part5 (M := M) (a := 5) (i := i) (j := 0) (y := 0) (k_5 hS) (r_5_1 hS) (k_6 hS) (L := 8) (g_6 hS) (by omega) (by decide) (by decide) rfl
      have q1 := p_part5 (M := M) (a := 5) (i := i) (j := 1) (y := 1) (k_5 hS) (r_5_1 hS) (k_6 hS) (L := 8) (g_6 hS) (by omega) (by decide) (by decide) rfl
      rw [(er i (by omega)).1, ep] at q0
      rw [(er i (by omega)).2] at q1
      rw [show m + (k + 1) + 1 = (m + k + 1) + 1 by omega, gX11_looked_2_s]
      simp only [k_0 hS, r_0_4 hS, k_5 hS, ck_t, rb_s, ec]
      rw [if_neg (by rw [leL (by omega) (by omega)]; omega)]
      simp only [r_0_0 hS, k_31 hS, r_31_7 hS, q0, q1, bd_s, k_35 hS, g_35 hS, inb_n hp6 (by decide : 6 < 1000000), tn (show p < 1000000 by omega), k_0 hS, r_0_4 hS, k_5 hS, ck_t, rb_s, cm_3 eH hp6, hM_3 hp6, nI_1]
      unfold aLook
      rw [ep, tn (show p < 1000000 by omega)]
      split
      · exact ih m (i + 1) (by omega)
      · rfl
  have ml : ∀ (k m i : Nat), i + k = c → gX12_looked_2 (m + k + 1) M 55 (nI i) = some (aLook (hM M) (sv M) k i, M) := by
    intro k
    induction k with
    | zero =>
      intro m i hi
      rw [gX12_looked_2_s, k_55 hS, ck_t, es', if_pos (by rw [leL (by omega) (by omega)]; omega)]
      rfl
    | succ k ih =>
      intro m i hi
      obtain ⟨p, hp6, ep⟩ := ev i (by omega)
      have i8 : i < 8 := by omega
      have v0 : mI M 75 i = nI p := by rw [← sv_75 i8]; exact ep
      have v1 : mI M 76 i = sv M (116 + i) := (sv_76 i8).symm
      rw [show m + (k + 1) + 1 = (m + k + 1) + 1 by omega, gX12_looked_2_s, k_55 hS, ck_t, es', if_neg (by rw [leL (by omega) (by omega)]; omega)]
      simp only [r_55_4 hS, r_55_32 hS, r_55_33 hS, k_75 hS, g_75 hS, k_76 hS, g_76 hS, k_59 hS, g_59 hS, ck_t, rb_s, inb_n i8 (by decide : 8 < 1000000), tn (show i < 1000000 by omega), v0, v1, inb_n hp6 (by decide : 6 < 1000000), tn (show p < 1000000 by omega), hM_3 hp6, nI_1]
      unfold aLook
      rw [ep, tn (show p < 1000000 by omega)]
      split
      · exact ih m (i + 1) (by omega)
      · rfl
  obtain ⟨m, hm⟩ := FUs c (by omega)
  have a1 := cl c m 0 (by omega)
  have a2 := ml c m 0 (by omega)
  rw [← hm] at a1 a2
  exact Ok_m h a1 a2
