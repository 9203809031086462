/-! ===== one place put otherwise, in both ===== -/
theorem row_st {M : Mem} {a b i : Nat} {x : Int32} (h : b ≠ a) : (stI M a i x).2.1 b = M.2.1 b := by
  rw [stI_row_eq]
  exact va_up_ne _ _ h
theorem hx_st {M : Mem} {b c hr pe a i : Nat} {x : Int32} (h1 : a < b ∨ b + 6 ≤ a) (h2 : a ≠ c) : hx (stI M a i x) b c hr pe = hx M b c hr pe := by
  rw [stI_row_eq]
  exact hx_wF h1 h2
theorem stI_same {M : Mem} {a i : Nat} {x : Int32} (h : mI M a i = x) : stI M a i x = M := by
  have : up2 M.2.1 a i x = M.2.1 := by
    funext b j
    unfold up2
    by_cases e : b = a ∧ j = i
    · rw [if_pos e, e.1, e.2]
      exact h.symm
    · rw [if_neg e]
  show (M.1, up2 M.2.1 a i x, M.2.2) = M
  rw [this]
theorem Inv_put {M : Mem} {n k i : Nat} {x : Int32} (h : Inv M n) (e : hC M 31 = hM M) (hk : k < 6) (hi : i < hsz k) (hB : Hb 9999 (up2 (hM M) k i x)) (hZ : Hz (up2 (hM M) k i x)) : Inv (stI (stI M (32 + k) i x) (56 + k) i x) n := by
  have e1 : hM (stI (stI M (32 + k) i x) (56 + k) i x) = up2 (hM M) k i x := by
    rw [show hM (stI (stI M (32 + k) i x) (56 + k) i x) = up2 (hM (stI M (32 + k) i x)) k i x from hx_put (b := 56) hk hi (by decide), show hM (stI M (32 + k) i x) = hM M from hx_st (by omega) (by omega)]
  have e2 : hC (stI (stI M (32 + k) i x) (56 + k) i x) 31 = up2 (hC M 31) k i x := by
    rw [show hC (stI (stI M (32 + k) i x) (56 + k) i x) 31 = hC (stI M (32 + k) i x) 31 from hx_st (by omega) (by omega)]
    exact hx_put (b := 32) (c := 31) hk hi (by decide)
  refine Inv_h h rfl rfl (fun b b1 b2 b3 => ?_) (fun f _ _ => ?_) (by rw [e1, e2, e]) (by rw [e1]; exact hB) (by rw [e1]; exact hZ)
  · rw [row_st (by omega), row_st (by omega)]
  · rw [mI_stI, if_neg (by omega), mI_stI, if_neg (by omega)]
theorem Hz_up {H : Hall} {k i : Nat} {x : Int32} (h : Hz H) (hk : k < 4) : Hz (up2 H k i x) := by
  obtain ⟨n, h1, h2, h3⟩ := h
  refine ⟨n, h1, by rw [show up2 H k i x 6 1 = H 6 1 from if_neg (by omega)]; exact h2, fun p p1 p2 => ?_⟩
  rw [show up2 H k i x 4 p = H 4 p from if_neg (by omega)]
  refine ⟨(h3 p p1 p2).1, fun j hj => ?_⟩
  rw [show up2 H k i x 5 (4 * p + j) = H 5 (4 * p + j) from if_neg (by omega)]
  exact (h3 p p1 p2).2 j hj
theorem Inv_Hz {M : Mem} {n : Nat} (h : Inv M n) : Hz (hM M) := by
  rw [hM_hV]
  exact h.2.1.2.2.1
theorem m_put {M : Mem} {n : Nat} (h : Inv M n) (x y : Int32) : Ok1 (fun M => fX11_put M 0 x y) (fun M => fX12_put M 55 x y) M := by
  obtain ⟨s, lw, bd, o⟩ := Op_of h
  obtain ⟨q, hq, e1, e2⟩ := Op_n o
  have hS := o.1
  have eH := o.2.2.2.2.1
  rcases cs_person hq x with ⟨p, hp, hp6, rfl, c1, m1⟩ | ⟨c0, m0⟩
  · rcases cs_cell y with ⟨c, hc, rfl, d1, d2⟩ | ⟨d1, d2⟩
    · have ip := inb_n hp6 (by decide : 6 < 1000000)
      have tp := tn (show p < 1000000 by omega)
      have hS2 : Sh (stI M 35 p (nI c)) := Sh_1 rfl hS
      have hB := o.2.2.2.2.2.1
      refine ⟨mI M 59 p, stI M 35 p (nI c), stI (stI M 35 p (nI c)) 59 p (nI c), n, k_55 hS, ?_, ?_, Inv_put (k := 3) h eH (by decide) hp6 ⟨Hok_cell hB.1 hc, hB.2⟩ (Hz_up (Inv_Hz h) (by decide))⟩
      · simp only [fX11_put, k_0 hS, r_0_0 hS, k_31 hS, r_31_7 hS, k_35 hS, g_35 hS, c1 M hS e1, d1, ck_t, bd_s, rb_s, ip, tp, show ¬ (1 : Int32) = 0 by decide, if_false, cm_3 eH hp6]
      · have e2' : mI (stI M 35 p (nI c)) 55 1 = nI q := e2
        have e3' : mI (stI M 35 p (nI c)) 59 p = mI M 59 p := by rw [mI_stI, if_neg (by omega)]
        simp only [fX12_put, k_55 hS2, r_55_4 hS2, k_59 hS2, g_59 hS2, m1 _ hS2 e2', d2, ck_t, bd_s, rb_s, ip, tp, show ¬ (1 : Int32) = 0 by decide, if_false, e3']
    · refine Ok_m h (a := -1) ?_ ?_
      · simp only [fX11_put, k_0 hS, c1 M hS e1, d1, ck_t, bd_s, show ¬ (1 : Int32) = 0 by decide, if_true, if_false]
      · simp only [fX12_put, k_55 hS, m1 M hS e2, d2, ck_t, bd_s, show ¬ (1 : Int32) = 0 by decide, if_true, if_false]
  · refine Ok_m h (a := -1) ?_ ?_
    · simp only [fX11_put, k_0 hS, c0 M hS e1, ck_t, bd_s, if_true]
    · simp only [fX12_put, k_55 hS, m0 M hS e2, ck_t, bd_s, if_true]
theorem m_wear {M : Mem} {n : Nat} (h : Inv M n) (x y : Int32) : Ok1 (fun M => fX11_wear M 0 x y) (fun M => fX12_wear M 55 x y) M := by
  obtain ⟨s, lw, bd, o⟩ := Op_of h
  have hS := o.1
  have eH := o.2.2.2.2.1
  rcases cs_cell x with ⟨c, hc, rfl, d1, d2⟩ | ⟨d1, d2⟩
  · rcases rng (L := 100) (K := 99) (n := 100) y rfl rfl (by decide) with ⟨w, hw, rfl, h1, h2, h3, h4, h5⟩ | h1 | ⟨h1, h2, h3, h4, h5⟩
    · have ic := inb_n hc (by decide : 25 < 1000000)
      have tc := tn (show c < 1000000 by omega)
      have hS2 : Sh (stI M 32 c (nI w)) := Sh_1 rfl hS
      have hB := o.2.2.2.2.2.1
      refine ⟨mI M 56 c, stI M 32 c (nI w), stI (stI M 32 c (nI w)) 56 c (nI w), n, k_55 hS, ?_, ?_, Inv_put (k := 0) h eH (by decide) hc ⟨Hok_wear hB.1 hc (by omega), hB.2⟩ (Hz_up (Inv_Hz h) (by decide))⟩
      · simp only [fX11_wear, k_0 hS, r_0_0 hS, k_31 hS, r_31_3 hS, k_32 hS, g_32 hS, d1, ck_t, bd_s, rb_s, ic, tc, show ¬ (1 : Int32) = 0 by decide, if_false, h1, h4, if_true, cm_0 eH hc]
      · have e3' : mI (stI M 32 c (nI w)) 56 c = mI M 56 c := by rw [mI_stI, if_neg (by omega)]
        simp only [fX12_wear, wi_1 (L := 100) h1 h5, k_55 hS2, r_55_0 hS2, k_56 hS2, g_56 hS2, d2, ck_t, bd_s, rb_s, ic, tc, show ¬ (1 : Int32) = 0 by decide, if_false, e3']
    · refine Ok_m h (a := -2) ?_ ?_
      · simp only [fX11_wear, d1, bd_s, show ¬ (1 : Int32) = 0 by decide, if_false, h1, if_true]
      · simp only [fX12_wear, wi_0 h1, d2, bd_s, show ¬ (1 : Int32) = 0 by decide, if_false, if_true]
    · refine Ok_m h (a := -2) ?_ ?_
      · simp only [fX11_wear, d1, bd_s, show ¬ (1 : Int32) = 0 by decide, if_false, h1, h4]
      · simp only [fX12_wear, wi_2 h5, d2, bd_s, show ¬ (1 : Int32) = 0 by decide, if_false, if_true]
  · refine Ok_m h (a := -1) ?_ ?_
    · simp only [fX11_wear, d1, bd_s, if_true]
    · simp only [fX12_wear, d2, bd_s, if_true]
theorem m_away {M : Mem} {n : Nat} (h : Inv M n) (x y : Int32) (hy : y = 0 ∨ y = 1) : Ok1 (fun M => fX11_away M 0 x y) (fun M => fX12_away M 55 x y) M := by
  obtain ⟨s, lw, bd, o⟩ := Op_of h
  obtain ⟨q, hq, e1, e2⟩ := Op_n o
  have hS := o.1
  have eH := o.2.2.2.2.1
  rcases cs_person hq x with ⟨p, hp, hp6, rfl, c1, m1⟩ | ⟨c0, m0⟩
  · have ip := inb_n hp6 (by decide : 6 < 1000000)
    have tp := tn (show p < 1000000 by omega)
    have hS2 : Sh (stI M 36 p y) := Sh_1 rfl hS
    have hB := o.2.2.2.2.2.1
    have hz : Hz (up2 (hM M) 4 p y) := by
      obtain ⟨k, k1, k2, k3⟩ := Inv_Hz h
      have : k = q := by
        have := k2.symm.trans e2
        rw [eqL (by omega) (by omega)] at this
        exact this
      subst this
      refine ⟨k, k1, k2, fun r r1 r2 => ⟨?_, (k3 r r1 r2).2⟩⟩
      rw [show up2 (hM M) 4 p y 4 r = hM M 4 r from if_neg (by omega)]
      exact (k3 r r1 r2).1
    have by1 : b01 y = true := by rcases hy with rfl | rfl <;> rfl
    refine ⟨mI M 60 p, stI M 36 p y, stI (stI M 36 p y) 60 p y, n, k_55 hS, ?_, ?_, Inv_put (k := 4) h eH (by decide) hp6 ⟨Hok_away hB.1 hy, hB.2⟩ hz⟩
    · simp only [fX11_away, gX11_away_27, k_0 hS, r_0_0 hS, k_31 hS, r_31_8 hS, k_36 hS, g_36 hS, c1 M hS e1, ck_t, bd_s, rb_s, ip, tp, show ¬ (1 : Int32) = 0 by decide, if_false, cm_4 eH hp6, by1]
      rcases hB.1.2.2.2.2.2 p hp6 with w | w
      · rw [hM_4 hp6, w, if_pos rfl]
      · rw [hM_4 hp6, w, if_neg (by decide)]
    · have e2' : mI (stI M 36 p y) 55 1 = nI q := e2
      have e3' : mI (stI M 36 p y) 60 p = mI M 60 p := by rw [mI_stI, if_neg (by omega)]
      rcases hy with rfl | rfl
      · simp only [fX12_away, k_55 hS2, r_55_5 hS2, k_60 hS2, g_60 hS2, m1 _ hS2 e2', ck_t, bd_s, rb_s, ip, tp, show ¬ (1 : Int32) = 0 by decide, if_false, if_true, e3']
      · simp only [fX12_away, k_55 hS2, r_55_5 hS2, k_60 hS2, g_60 hS2, m1 _ hS2 e2', ck_t, bd_s, rb_s, ip, tp, show ¬ (1 : Int32) = 0 by decide, if_false, e3']
  · refine Ok_m h (a := -1) ?_ ?_
    · simp only [fX11_away, k_0 hS, c0 M hS e1, ck_t, bd_s, if_true]
    · simp only [fX12_away, k_55 hS, m0 M hS e2, ck_t, bd_s, if_true]
theorem cs_digit (x : Int32) : (∃ c, c < 10 ∧ x = nI c ∧ (∀ M, fX11_isDigit M x = some (1, M)) ∧ ∀ M, fX12_within M x 0 9 = some (1, M)) ∨ ((∀ M, fX11_isDigit M x = some (0, M)) ∧ ∀ M, fX12_within M x 0 9 = some (0, M)) := by
  rcases rng (L := 10) (K := 9) (n := 10) x rfl rfl (by decide) with ⟨c, hc, e, h1, h2, h3, h4, h5⟩ | h1 | ⟨h1, h2, h3, h4, h5⟩
  · exact Or.inl ⟨c, hc, e, fun M => by unfold fX11_isDigit; rw [if_neg h1, if_neg h5], fun M => wi_1 (L := 10) h1 h5⟩
  · exact Or.inr ⟨fun M => by unfold fX11_isDigit; rw [if_pos h1], fun M => wi_0 h1⟩
  · exact Or.inr ⟨fun M => by unfold fX11_isDigit; rw [if_neg h1, if_pos h5], fun M => wi_2 h5⟩
theorem p_inst {M : Mem} {k : Nat} (hk : Kd M) (hk6 : k ≤ 6) : inst8 M (22 + k) = some (if k = 6 then 1 else 0, M) := by
  obtain ⟨k0, k1, k2, ⟨-, k3⟩, ⟨-, k4⟩, ⟨-, k5⟩, ⟨-, k6⟩, ⟨-, k7⟩, ⟨-, k8⟩, ⟨-, k9⟩⟩ := hk
  have hlt : 22 + k < mN M := by omega
  have W : isW M (22 + k) = true := by
    have : mK M (22 + k) = 0 ∨ mK M (22 + k) = 2 ∨ mK M (22 + k) = 4 ∨ mK M (22 + k) = 6 ∨ mK M (22 + k) = 8 ∨ mK M (22 + k) = 9 ∨ mK M (22 + k) = 10 := by
      rcases (show k = 0 ∨ k = 1 ∨ k = 2 ∨ k = 3 ∨ k = 4 ∨ k = 5 ∨ k = 6 by omega) with rfl | rfl | rfl | rfl | rfl | rfl | rfl <;> simp [k3, k4, k5, k6, k7, k8, k9]
    simp [isW, hlt, this]
  unfold inst8
  rw [W, ck_t]
  rcases (show k = 0 ∨ k = 1 ∨ k = 2 ∨ k = 3 ∨ k = 4 ∨ k = 5 ∨ k = 6 by omega) with rfl | rfl | rfl | rfl | rfl | rfl | rfl <;> simp [k3, k4, k5, k6, k7, k8, k9]
theorem m_row {M : Mem} {n : Nat} (h : Inv M n) (x y z : Int32) : Ok1 (fun M => fX11_row M 0 x y z) (fun M => fX12_row M 55 x y z) M := by
  obtain ⟨s, lw, bd, o⟩ := Op_of h
  obtain ⟨q, hq, e1, e2⟩ := Op_n o
  have hS := o.1
  have eH := o.2.2.2.2.1
  rcases cs_person hq x with ⟨p, hp, hp6, rfl, c1, m1⟩ | ⟨c0, m0⟩
  · rcases rng (L := 4) (K := 3) (n := 4) y rfl rfl (by decide) with ⟨w, hw, rfl, h1, h2, h3, h4, h5⟩ | h1 | ⟨h1, h2, h3, h4, h5⟩
    · rcases cs_digit z with ⟨d, hd, rfl, d1, d2⟩ | ⟨d1, d2⟩
      · have ip := inb_n hp6 (by decide : 6 < 1000000)
        have tp := tn (show p < 1000000 by omega)
        have hB := o.2.2.2.2.2.1
        obtain ⟨k, hk, ek⟩ := hB.1.2.2.2.1 p hp6
        have ekc : hC M 31 1 p = nI k := by rw [eH]; exact ek
        by_cases k6 : k = 6
        · have ei : (nI p * 4 + nI w : Int32) = nI (4 * p + w) := by
            rw [show (4 : Int32) = nI 4 from rfl, pk_mul, nI_add, Nat.mul_comm]
          have ei2 : ((4 : Int32) * nI p + nI w : Int32) = nI (4 * p + w) := by
            rw [show (4 : Int32) = nI 4 from rfl, pk_mul, nI_add]
          have i4 := inb_n (show 4 * p + w < 24 by omega) (by decide : 24 < 1000000)
          have t4 := tn (show 4 * p + w < 1000000 by omega)
          have hS2 : Sh (stI M 37 (4 * p + w) (nI d)) := Sh_1 rfl hS
          have hz : Hz (up2 (hM M) 5 (4 * p + w) (nI d)) := by
            obtain ⟨k, k1, k2, k3⟩ := Inv_Hz h
            have : k = q := by
              have := k2.symm.trans e2
              rw [eqL (by omega) (by omega)] at this
              exact this
            subst this
            refine ⟨k, k1, k2, fun r r1 r2 => ⟨(k3 r r1 r2).1, fun j hj => ?_⟩⟩
            rw [show up2 (hM M) 5 (4 * p + w) (nI d) 5 (4 * r + j) = hM M 5 (4 * r + j) from if_neg (by omega)]
            exact (k3 r r1 r2).2 j hj
          refine ⟨mI M 61 (4 * p + w), stI M 37 (4 * p + w) (nI d), stI (stI M 37 (4 * p + w) (nI d)) 61 (4 * p + w) (nI d), n, k_55 hS, ?_, ?_, Inv_put (k := 5) h eH (by decide) (show 4 * p + w < 24 by omega) ⟨Hok_rows hB.1, hB.2⟩ hz⟩
          · simp only [fX11_row, k_0 hS, r_0_0 hS, k_31 hS, r_31_9 hS, k_37 hS, g_37 hS, c1 M hS e1, d1, ck_t, bd_s, rb_s, show ¬ (1 : Int32) = 0 by decide, if_false, if_true, h1, h3, p_kindOf (Hl_31 hS) (Kd_s hS) hp6 ekc hk, (show inst8 M (22 + k) = some (1, M) by rw [p_inst (Kd_s hS) hk, if_pos k6]), ei, i4, t4, cm_5 eH (show 4 * p + w < 24 by omega)]
          · have e2' : mI (stI M 37 (4 * p + w) (nI d)) 55 1 = nI q := e2
            have e3' : mI (stI M 37 (4 * p + w) (nI d)) 61 (4 * p + w) = mI M 61 (4 * p + w) := by rw [mI_stI, if_neg (by omega)]
            have e4' : mI (stI M 37 (4 * p + w) (nI d)) 57 p = 6 := by
              rw [mI_stI, if_neg (by omega), hM_1 hp6, ek, k6]
              rfl
            simp only [fX12_row, k_55 hS2, r_55_2 hS2, r_55_6 hS2, k_57 hS2, g_57 hS2, k_61 hS2, g_61 hS2, m1 _ hS2 e2', wi_1 (L := 4) h1 h5, d2, ck_t, bd_s, rb_s, ip, tp, show ¬ (1 : Int32) = 0 by decide, if_false, if_true, e3', e4', ei2, i4, t4]
        · have kn : ¬ nI k = 6 := by
            rw [show (6 : Int32) = nI 6 from rfl, eqL (by omega) (by omega)]
            exact k6
          refine Ok_m h (a := -3) ?_ ?_
          · simp only [fX11_row, k_0 hS, r_0_0 hS, k_31 hS, c1 M hS e1, d1, ck_t, bd_s, rb_s, show ¬ (1 : Int32) = 0 by decide, if_false, if_true, h1, h3, p_kindOf (Hl_31 hS) (Kd_s hS) hp6 ekc hk, (show inst8 M (22 + k) = some (0, M) by rw [p_inst (Kd_s hS) hk, if_neg k6])]
          · simp only [fX12_row, k_55 hS, r_55_2 hS, k_57 hS, g_57 hS, m1 _ hS e2, wi_1 (L := 4) h1 h5, d2, ck_t, bd_s, rb_s, ip, tp, show ¬ (1 : Int32) = 0 by decide, if_false, hM_1 hp6, ek, kn]
      · refine Ok_m h (a := -2) ?_ ?_
        · simp only [fX11_row, k_0 hS, c1 M hS e1, d1, ck_t, bd_s, show ¬ (1 : Int32) = 0 by decide, if_false, if_true, h1, h3]
        · simp only [fX12_row, k_55 hS, m1 _ hS e2, wi_1 (L := 4) h1 h5, d2, ck_t, bd_s, show ¬ (1 : Int32) = 0 by decide, if_false, if_true]
    · refine Ok_m h (a := -1) ?_ ?_
      · simp only [fX11_row, k_0 hS, c1 M hS e1, ck_t, bd_s, show ¬ (1 : Int32) = 0 by decide, if_false, if_true, h1]
      · simp only [fX12_row, k_55 hS, m1 _ hS e2, wi_0 h1, ck_t, bd_s, show ¬ (1 : Int32) = 0 by decide, if_false, if_true]
    · refine Ok_m h (a := -1) ?_ ?_
      · simp only [fX11_row, k_0 hS, c1 M hS e1, ck_t, bd_s, show ¬ (1 : Int32) = 0 by decide, if_false, h1, h3]
      · simp only [fX12_row, k_55 hS, m1 _ hS e2, wi_2 h5, ck_t, bd_s, show ¬ (1 : Int32) = 0 by decide, if_false, if_true]
  · refine Ok_m h (a := -1) ?_ ?_
    · simp only [fX11_row, k_0 hS, c0 M hS e1, ck_t, bd_s, if_true]
    · simp only [fX12_row, k_55 hS, m0 M hS e2, ck_t, bd_s, if_true]
/-! ===== one ===== -/
theorem p_oneL {M : Mem} {q : Nat} (h : Sh M) (hq : q < 6) (e : mI M 55 1 = nI q) (hz : ∀ i, i < 4 → mI M 61 (4 * q + i) = 0) : ∀ (k m i : Nat), i + k = 4 → gX12_one_87 (m + k + 1) M 55 (nI i) = some (nI q, stI M 55 1 (nI (q + 1))) := by
  intro k
  induction k with
  | zero =>
    intro m i hi
    have : i = 4 := by omega
    subst this
    rw [gX12_one_87_s, if_pos (by decide), k_55 h, ck_t, e, nI_1]
  | succ k ih =>
    intro m i hi
    have ei2 : ((4 : Int32) * nI q + nI i : Int32) = nI (4 * q + i) := by
      rw [show (4 : Int32) = nI 4 from rfl, pk_mul, nI_add]
    rw [show m + (k + 1) + 1 = (m + k + 1) + 1 by omega, gX12_one_87_s, if_neg (ge4 (by omega))]
    simp only [k_55 h, r_55_6 h, k_61 h, g_61 h, ck_t, rb_s, e, ei2, inb_n (show 4 * q + i < 24 by omega) (by decide), tn (show 4 * q + i < 1000000 by omega), nI_1, stI_same (hz i (by omega))]
    exact ih m (i + 1) (by omega)
theorem m_one {M : Mem} {n : Nat} (h : Inv M n) (x y z : Int32) : Ok1 (fun M => fX11_one M 0 x y z) (fun M => fX12_one M 55 x y z) M := by
  obtain ⟨s, lw, bd, o⟩ := Op_of h
  obtain ⟨q, hq, e1, e2⟩ := Op_n o
  have hS := o.1
  have eH := o.2.2.2.2.1
  rcases rng (L := 7) (K := 6) (n := 7) x rfl rfl (by decide) with ⟨k, hk, rfl, h1, h2, h3, h4, h5⟩ | h1 | ⟨h1, h2, h3, h4, h5⟩
  · rcases cs_cell z with ⟨c, hc, rfl, d1, d2⟩ | ⟨d1, d2⟩
    · rcases cs_digit y with ⟨v, hv, rfl, v1, v2⟩ | ⟨v1, v2⟩
      · by_cases hq6 : q = 6
        · subst hq6
          refine Ok_m h (a := -4) ?_ ?_
          · simp only [fX11_one, fX3_welcome, h1, h2, if_false, d1, v1, bd_s, k_0 hS, r_0_0 hS, k_31 hS, ck_t, rb_s, show ¬ (1 : Int32) = 0 by decide, e1, show ¬ nI 6 < 6 by decide]
          · simp only [fX12_one, wi_1 (L := 7) h1 h5, d2, v2, bd_s, k_55 hS, ck_t, show ¬ (1 : Int32) = 0 by decide, if_false, e2, show nI 6 = 6 by decide, if_true]
        · have hq5 : q < 6 := by omega
          have iq := inb_n hq5 (by decide : 6 < 1000000)
          have tq := tn (show q < 1000000 by omega)
          have lt6 : nI q < 6 := by
            rw [show (6 : Int32) = nI 6 from rfl, ltL (by omega) (by omega)]
            exact hq5
          have ne6 : ¬ nI q = 6 := by
            rw [show (6 : Int32) = nI 6 from rfl, eqL (by omega) (by omega)]
            exact hq6
          obtain ⟨q', z1, z2, z3⟩ := Inv_Hz h
          have : q' = q := by
            have := z2.symm.trans e2
            rw [eqL (by omega) (by omega)] at this
            exact this
          subst this
          obtain ⟨za, zr⟩ := z3 q' (Nat.le_refl _) hq5
          have hB := o.2.2.2.2.2.1
          have hN : ∃ N, N = stI (stI (stI (stI M 33 q' (nI k)) 34 q' (nI v)) 35 q' (nI c)) 31 4 (nI (q' + 1)) := ⟨_, rfl⟩
          obtain ⟨N, eN⟩ := hN
          have hSN : Sh N := by rw [eN]; exact Sh_1 rfl hS
          have rN : ∀ b, b ≠ 31 → b ≠ 33 → b ≠ 34 → b ≠ 35 → N.2.1 b = M.2.1 b := by
            intro b b1 b2 b3 b4
            rw [eN, row_st b1, row_st b4, row_st b3, row_st b2]
          have rI : ∀ b i, b ≠ 31 → b ≠ 33 → b ≠ 34 → b ≠ 35 → mI N b i = mI M b i := fun b i b1 b2 b3 b4 => congrFun (rN b b1 b2 b3 b4) i
          have eCN : hC N 31 = up2 (up2 (up2 (up2 (hM M) 1 q' (nI k)) 2 q' (nI v)) 3 q' (nI c)) 6 1 (nI (q' + 1)) := by
            rw [eN, ← eH]
            rw [show hC (stI (stI (stI (stI M 33 q' (nI k)) 34 q' (nI v)) 35 q' (nI c)) 31 4 (nI (q' + 1))) 31 = up2 (hC (stI (stI (stI M 33 q' (nI k)) 34 q' (nI v)) 35 q' (nI c)) 31) 6 1 (nI (q' + 1)) from hx_pe (by decide) (by decide), show hC (stI (stI (stI M 33 q' (nI k)) 34 q' (nI v)) 35 q' (nI c)) 31 = up2 (hC (stI (stI M 33 q' (nI k)) 34 q' (nI v)) 31) 3 q' (nI c) from hx_put (b := 32) (c := 31) (k := 3) (by decide) hq5 (by decide), show hC (stI (stI M 33 q' (nI k)) 34 q' (nI v)) 31 = up2 (hC (stI M 33 q' (nI k)) 31) 2 q' (nI v) from hx_put (b := 32) (c := 31) (k := 2) (by decide) hq5 (by decide), show hC (stI M 33 q' (nI k)) 31 = up2 (hC M 31) 1 q' (nI k) from hx_put (b := 32) (c := 31) (k := 1) (by decide) hq5 (by decide)]
          have hP : ∃ P, P = stI (stI (stI (stI N 57 q' (nI k)) 58 q' (nI v)) 59 q' (nI c)) 55 1 (nI (q' + 1)) := ⟨_, rfl⟩
          obtain ⟨P, eP⟩ := hP
          have eMN : hM N = hM M := by
            rw [hM_hV, hM_hV]
            exact hV_eq (fun j hj => by
              have := src_row j hj
              exact rI _ _ (by omega) (by omega) (by omega) (by omega))
          have eMP : hM P = up2 (up2 (up2 (up2 (hM M) 1 q' (nI k)) 2 q' (nI v)) 3 q' (nI c)) 6 1 (nI (q' + 1)) := by
            rw [eP, ← eMN]
            rw [show hM (stI (stI (stI (stI N 57 q' (nI k)) 58 q' (nI v)) 59 q' (nI c)) 55 1 (nI (q' + 1))) = up2 (hM (stI (stI (stI N 57 q' (nI k)) 58 q' (nI v)) 59 q' (nI c))) 6 1 (nI (q' + 1)) from hx_pe (by decide) (by decide), show hM (stI (stI (stI N 57 q' (nI k)) 58 q' (nI v)) 59 q' (nI c)) = up2 (hM (stI (stI N 57 q' (nI k)) 58 q' (nI v))) 3 q' (nI c) from hx_put (b := 56) (k := 3) (by decide) hq5 (by decide), show hM (stI (stI N 57 q' (nI k)) 58 q' (nI v)) = up2 (hM (stI N 57 q' (nI k))) 2 q' (nI v) from hx_put (b := 56) (k := 2) (by decide) hq5 (by decide), show hM (stI N 57 q' (nI k)) = up2 (hM N) 1 q' (nI k) from hx_put (b := 56) (k := 1) (by decide) hq5 (by decide)]
          have eCP : hC P 31 = hC N 31 := by
            rw [eP]
            exact hC_c (fun b b1 b2 => by rw [row_st (by omega), row_st (by omega), row_st (by omega), row_st (by omega)])
          have hB2 : Hb 9999 (hM P) := by
            rw [eMP]
            obtain ⟨⟨b1, b2, b3, b4, b5, b6⟩, b7⟩ := hB
            refine ⟨⟨⟨q' + 1, by omega, by simp [up2]⟩, b2, b3, fun i hi => ?_, fun i hi => ?_, b6⟩, b7⟩
            · by_cases ei : i = q'
              · exact ⟨k, by omega, by simp [up2, ei]⟩
              · simpa [up2, ei] using b4 i hi
            · by_cases ei : i = q'
              · exact ⟨c, hc, by simp [up2, ei]⟩
              · simpa [up2, ei] using b5 i hi
          have hZ2 : Hz (hM P) := by
            rw [eMP]
            refine ⟨q' + 1, by omega, by simp [up2], fun r r1 r2 => ?_⟩
            have := z3 r (by omega) r2
            refine ⟨by simpa [up2] using this.1, fun j hj => by simpa [up2] using this.2 j hj⟩
          refine ⟨nI q', N, P, n, k_55 hSN, ?_, ?_, Inv_h h (by rw [eP, eN]; rfl) (by rw [eP, eN]; rfl) (fun b b1 b2 b3 => ?_) (fun f f1 f2 => ?_) (by rw [eCP, eCN, eMP]) hB2 hZ2⟩
          · have u1 : mI (stI (stI (stI M 33 q' (nI k)) 34 q' (nI v)) 35 q' (nI c)) 31 4 = nI q' := by
              rw [mI_stI, if_neg (by omega), mI_stI, if_neg (by omega), mI_stI, if_neg (by omega), e1]
            simp only [fX11_one, fX3_welcome, h1, h2, if_false, d1, v1, bd_s, k_0 hS, r_0_0 hS, k_31 hS, r_31_5 hS, r_31_6 hS, r_31_7 hS, k_33 hS, g_33 hS, k_34 hS, g_34 hS, k_35 hS, g_35 hS, ck_t, rb_s, nm_s, mR_stI, show ¬ (1 : Int32) = 0 by decide, e1, lt6, if_true, iq, tq, u1, nI_1, eN]
          · have e2N : mI N 55 1 = nI q' := by rw [rI _ _ (by omega) (by omega) (by omega) (by omega)]; exact e2
            have u1 : mI (stI N 57 q' (nI k)) 55 1 = nI q' := by rw [mI_stI, if_neg (by omega), e2N]
            have u2 : mI (stI (stI N 57 q' (nI k)) 58 q' (nI v)) 55 1 = nI q' := by rw [mI_stI, if_neg (by omega), u1]
            have u3 : mI (stI (stI (stI N 57 q' (nI k)) 58 q' (nI v)) 59 q' (nI c)) 55 1 = nI q' := by rw [mI_stI, if_neg (by omega), u2]
            have u4 : mI (stI (stI (stI N 57 q' (nI k)) 58 q' (nI v)) 59 q' (nI c)) 60 q' = 0 := by
              rw [mI_stI, if_neg (by omega), mI_stI, if_neg (by omega), mI_stI, if_neg (by omega), rI _ _ (by omega) (by omega) (by omega) (by omega), hM_4 hq5]
              exact za
            have hS3 : Sh (stI (stI (stI N 57 q' (nI k)) 58 q' (nI v)) 59 q' (nI c)) := Sh_1 rfl hSN
            obtain ⟨m, hm⟩ := FUs 4 (by decide)
            have := p_oneL hS3 hq5 u3 (fun i hi => by
              rw [mI_stI, if_neg (by omega), mI_stI, if_neg (by omega), mI_stI, if_neg (by omega), rI _ _ (by omega) (by omega) (by omega) (by omega), hM_5 (by omega)]
              exact zr i hi) 4 m 0 rfl
            rw [← hm] at this
            simp only [fX12_one, wi_1 (L := 7) h1 h5, d2, v2, bd_s, k_55 hSN, r_55_2 hSN, r_55_3 hSN, r_55_4 hSN, r_55_5 hSN, k_57 hSN, g_57 hSN, k_58 hSN, g_58 hSN, k_59 hSN, g_59 hSN, k_60 hSN, g_60 hSN, ck_t, rb_s, nm_s, mR_stI, isK_stI, mG_stI, show ¬ (1 : Int32) = 0 by decide, if_false, e2N, ne6, iq, tq, u1, u2, u3, stI_same u4]
            rw [eP]
            exact this
          · rw [eP, row_st (by omega), row_st (by omega), row_st (by omega), row_st (by omega)]
            exact rN b (by omega) (by omega) (by omega) (by omega)
          · rw [eP, mI_stI, if_neg (by omega), mI_stI, if_neg (by omega), mI_stI, if_neg (by omega), mI_stI, if_neg (by omega)]
            exact rI _ _ (by omega) (by omega) (by omega) (by omega)
      · refine Ok_m h (a := -2) ?_ ?_
        · simp only [fX11_one, h1, h2, if_false, d1, v1, bd_s, show ¬ (1 : Int32) = 0 by decide, if_true]
        · simp only [fX12_one, wi_1 (L := 7) h1 h5, d2, v2, bd_s, show ¬ (1 : Int32) = 0 by decide, if_false, if_true]
    · refine Ok_m h (a := -1) ?_ ?_
      · simp only [fX11_one, h1, h2, if_false, d1, bd_s, if_true]
      · simp only [fX12_one, wi_1 (L := 7) h1 h5, d2, bd_s, show ¬ (1 : Int32) = 0 by decide, if_false, if_true]
  · refine Ok_m h (a := -1) ?_ ?_
    · simp only [fX11_one, h1, if_true]
    · simp only [fX12_one, wi_0 h1, bd_s, if_true]
  · refine Ok_m h (a := -1) ?_ ?_
    · simp only [fX11_one, h1, h2, if_false, if_true]
    · simp only [fX12_one, wi_2 h5, bd_s, if_true]
