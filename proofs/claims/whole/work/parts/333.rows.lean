/-! ===== rows told by hand ===== -/
theorem hM_c {M N : Mem} (h : ∀ b, 56 ≤ b → b ≤ 61 → N.2.1 b = M.2.1 b) (h7 : mI N 55 7 = mI M 55 7) (h1 : mI N 55 1 = mI M 55 1) : hM N = hM M := by
  funext k i
  show hx N 56 55 7 1 k i = hx M 56 55 7 1 k i
  unfold hx
  by_cases hi : i < hsz k
  · rw [if_pos hi, if_pos hi]
    have hk := hsz_k hi
    by_cases h6 : k = 6
    · rw [if_pos h6, if_pos h6, h7, h1]
    · rw [if_neg h6, if_neg h6]
      unfold mI
      rw [h (56 + k) (by omega) (by omega)]
  · rw [if_neg hi, if_neg hi]
theorem Inv_rw {M N : Mem} {n : Nat} (h : Inv M n) (e : N.1 = M.1) (el : N.2.2 = M.2.2) (r : ∀ b, ¬ (1 ≤ b ∧ b ≤ 6) → b ≠ 55 → ¬ (70 ≤ b ∧ b ≤ 76) → N.2.1 b = M.2.1 b) (rf : ∀ f, f ≠ 24 → f ≠ 28 → f ≠ 31 → mI N 55 f = mI M 55 f) (rl : ∀ b, b = 1 ∨ b = 3 ∨ b = 5 → mI N b 0 = mI M b 0) (k1 : RSeen N 1 (sv N)) (k2 : RPlan N 3 (sv N)) (k3 : RBook N 5 (sv N)) : Inv N n := by
  obtain ⟨h1, h2, h3, h4, h5, h6, h7, h8⟩ := h
  have rI : ∀ b i, ¬ (1 ≤ b ∧ b ≤ 6) → b ≠ 55 → ¬ (70 ≤ b ∧ b ≤ 76) → mI N b i = mI M b i := fun b i b1 b2 b3 => congrFun (r b b1 b2 b3) i
  have f := Fs_1 e
  have fR : ∀ a i, mR N a i = mR M a i := fun a i => by unfold mR; rw [e]
  have eh : hV (sv N) = hV (sv M) := by
    rw [← hM_hV, ← hM_hV]
    exact hM_c (fun b b1 b2 => r b (by omega) (by omega) (by omega)) (rf 7 (by decide) (by decide) (by decide)) (rf 1 (by decide) (by decide) (by decide))
  refine ⟨Fs_Sh f h1, ?_, ILaw_c h3 f (rI _ _ (by omega) (by omega) (by omega)) (rf _ (by omega) (by omega) (by omega)) (rf _ (by omega) (by omega) (by omega)) (fun b hb => r b (by omega) (by omega) (by omega)), ILim_c h4 rl, IText_c h5 (rI _ _ (by omega) (by omega) (by omega)) (rf _ (by omega) (by omega) (by omega)) (fun b hb => r b (by omega) (by omega) (by omega)), IDeed_c h6 (rf _ (by omega) (by omega) (by omega)) (fun b hb => r b (by omega) (by omega) (by omega)), ITape_c h7 el (fun b hb => r b (by omega) (by omega) (by omega)), IImg_c h8 (rI _ _ (by omega) (by omega) (by omega)) (rf _ (by omega) (by omega) (by omega)) (fun b hb => r b (by omega) (by omega) (by omega)) (fR _ _)⟩
  obtain ⟨g1, g2, g3, ⟨k, q1, q2, q3⟩, -⟩ := h2
  refine ⟨?_, by rw [eh]; exact g2, by rw [eh]; exact g3, ⟨k, q1, (fR _ _).trans q2, (rf 15 (by decide) (by decide) (by decide)).trans q3⟩, k1, k2, k3⟩
  rw [eh, ← g1]
  exact hC_c (fun b b1 b2 => r b (by omega) (by omega) (by omega))
theorem RSeen_e {M N : Mem} {a : Nat} {S T : Nat → Int32} (h : RSeen M a S) (e1 : N.2.1 a = M.2.1 a) (e2 : N.2.1 (a + 1) = M.2.1 (a + 1)) (es : ∀ j, (73 ≤ j ∧ j < 88) ∨ j = 126 → T j = S j) : RSeen N a T := by
  obtain ⟨c, h1, h2, h3, h4, h5⟩ := h
  refine ⟨c, h1, ?_, (es 126 (by omega)).trans h3, fun i hi => ?_, fun i hi => ?_⟩
  · unfold mI at *; rw [e1]; exact h2
  · rw [es _ (by omega), es _ (by omega), es _ (by omega)]
    have := h4 i hi
    unfold mI at *
    rw [e2]
    exact this
  · rw [es _ (by omega), es _ (by omega)]
    exact h5 i hi
theorem RPlan_e {M N : Mem} {a : Nat} {S T : Nat → Int32} (h : RPlan M a S) (e1 : N.2.1 a = M.2.1 a) (e2 : N.2.1 (a + 1) = M.2.1 (a + 1)) (es : ∀ j, (88 ≤ j ∧ j < 108) ∨ j = 127 → T j = S j) : RPlan N a T := by
  obtain ⟨c, h1, h2, h3, h4, h5⟩ := h
  refine ⟨c, h1, ?_, (es 127 (by omega)).trans h3, fun i hi => ?_, fun i hi => ?_⟩
  · unfold mI at *; rw [e1]; exact h2
  · rw [es _ (by omega), es _ (by omega)]
    have := h4 i hi
    unfold mI at *
    rw [e2]
    exact this
  · rw [es _ (by omega), es _ (by omega)]
    exact h5 i hi
theorem RBook_e {M N : Mem} {a : Nat} {S T : Nat → Int32} (h : RBook M a S) (e1 : N.2.1 a = M.2.1 a) (e2 : N.2.1 (a + 1) = M.2.1 (a + 1)) (es : ∀ j, (108 ≤ j ∧ j < 124) ∨ j = 128 → T j = S j) : RBook N a T := by
  obtain ⟨c, h1, h2, h3, h4, h5⟩ := h
  refine ⟨c, h1, ?_, (es 128 (by omega)).trans h3, fun i hi => ?_, fun i hi => ?_⟩
  · unfold mI at *; rw [e1]; exact h2
  · rw [es _ (by omega), es _ (by omega)]
    have := h4 i hi
    unfold mI at *
    rw [e2]
    exact this
  · rw [es _ (by omega)]
    exact h5 i hi
theorem src_s : ∀ j, j < 130 → (73 ≤ j ∧ j < 88) → 70 ≤ (src j).1 ∧ (src j).1 ≤ 72 := by decide +kernel
theorem src_p : ∀ j, j < 130 → (88 ≤ j ∧ j < 108) → 73 ≤ (src j).1 ∧ (src j).1 ≤ 74 := by decide +kernel
theorem src_b : ∀ j, j < 130 → (108 ≤ j ∧ j < 124) → 75 ≤ (src j).1 ∧ (src j).1 ≤ 76 := by decide +kernel
theorem es_s {M N : Mem} (r : ∀ b, 70 ≤ b ∧ b ≤ 72 → N.2.1 b = M.2.1 b) (e : mI N 55 24 = mI M 55 24) : ∀ j, (73 ≤ j ∧ j < 88) ∨ j = 126 → sv N j = sv M j := by
  intro j hj
  rcases hj with hj | rfl
  · exact congrFun (r _ (src_s j (by omega) hj)) _
  · exact e
theorem es_p {M N : Mem} (r : ∀ b, 73 ≤ b ∧ b ≤ 74 → N.2.1 b = M.2.1 b) (e : mI N 55 28 = mI M 55 28) : ∀ j, (88 ≤ j ∧ j < 108) ∨ j = 127 → sv N j = sv M j := by
  intro j hj
  rcases hj with hj | rfl
  · exact congrFun (r _ (src_p j (by omega) hj)) _
  · exact e
theorem es_b {M N : Mem} (r : ∀ b, 75 ≤ b ∧ b ≤ 76 → N.2.1 b = M.2.1 b) (e : mI N 55 31 = mI M 55 31) : ∀ j, (108 ≤ j ∧ j < 124) ∨ j = 128 → sv N j = sv M j := by
  intro j hj
  rcases hj with hj | rfl
  · exact congrFun (r _ (src_b j (by omega) hj)) _
  · exact e
theorem add_row {M : Mem} {a c : Nat} {x y z w : Int32} : ∀ i, mI (stI (stI (stI (stI M (a + 1) (c * 3) x) (a + 1) (c * 3 + 1) y) (a + 1) (c * 3 + 2) z) a 2 w) (a + 1) (i * 3) = (if i = c then x else mI M (a + 1) (i * 3)) ∧ mI (stI (stI (stI (stI M (a + 1) (c * 3) x) (a + 1) (c * 3 + 1) y) (a + 1) (c * 3 + 2) z) a 2 w) (a + 1) (i * 3 + 1) = (if i = c then y else mI M (a + 1) (i * 3 + 1)) ∧ mI (stI (stI (stI (stI M (a + 1) (c * 3) x) (a + 1) (c * 3 + 1) y) (a + 1) (c * 3 + 2) z) a 2 w) (a + 1) (i * 3 + 2) = (if i = c then z else mI M (a + 1) (i * 3 + 2)) := by
  intro i
  simp only [mI_stI]
  by_cases e : i = c
  · subst e
    rw [if_pos rfl, if_pos rfl, if_pos rfl]
    refine ⟨?_, ?_, ?_⟩
    · rw [if_neg (by omega), if_neg (by omega), if_neg (by omega), if_pos ⟨trivial, rfl⟩]
    · rw [if_neg (by omega), if_neg (by omega), if_pos ⟨trivial, rfl⟩]
    · rw [if_neg (by omega), if_pos ⟨trivial, rfl⟩]
  · rw [if_neg e, if_neg e, if_neg e]
    refine ⟨?_, ?_, ?_⟩
    · rw [if_neg (by omega), if_neg (by omega), if_neg (by omega), if_neg (by omega)]
    · rw [if_neg (by omega), if_neg (by omega), if_neg (by omega), if_neg (by omega)]
    · rw [if_neg (by omega), if_neg (by omega), if_neg (by omega), if_neg (by omega)]
theorem p_add {M : Mem} {a c L : Nat} {x y z : Int32} (k1 : isK M a 5 = true) (r1 : mR M a 1 = some (a + 1)) (k2 : isK M (a + 1) 14 = true) (g2 : mG M (a + 1) = 3 * L) (l0 : mI M a 0 = nI L) (l2 : mI M a 2 = nI c) (hc : c < L) (hL : L ≤ 10) : fX5_add M a x y z = some (nI (c + 1), stI (stI (stI (stI M (a + 1) (c * 3) x) (a + 1) (c * 3 + 1) y) (a + 1) (c * 3 + 2) z) a 2 (nI (c + 1))) := by
  have hne : ¬ a = a + 1 := by omega
  have e3 : nI c * 3 = nI (c * 3) := by rw [show (3 : Int32) = nI 3 from rfl, pk_mul]
  have e31 : nI (c * 3) + 1 = nI (c * 3 + 1) := nI_1 _
  have e32 : nI (c * 3) + 2 = nI (c * 3 + 2) := by rw [show (2 : Int32) = nI 2 from rfl, nI_add]
  have lt : nI c < nI L := by rw [ltL (by omega) (by omega)]; exact hc
  simp only [fX5_add, k1, r1, k2, g2, l0, l2, lt, if_true, ck_t, rb_s, nm_s, isK_stI, mR_stI, mG_stI, mI_stI, hne, false_and, if_false, e3, e31, e32, nI_1, tn (show c * 3 < 1000000 by omega), tn (show c * 3 + 1 < 1000000 by omega), tn (show c * 3 + 2 < 1000000 by omega), inb_n (show c * 3 < 3 * L by omega) (by omega), inb_n (show c * 3 + 1 < 3 * L by omega) (by omega), inb_n (show c * 3 + 2 < 3 * L by omega) (by omega), and_self, true_and]
theorem p_addF {M : Mem} {a L : Nat} {x y z : Int32} (k1 : isK M a 5 = true) (l0 : mI M a 0 = nI L) (l2 : mI M a 2 = nI L) : fX5_add M a x y z = some (-4, M) := by
  have lt : ¬ nI L < nI L := fun hh => Int32.lt_irrefl hh
  simp only [fX5_add, k1, l0, l2, lt, if_false, ck_t]
/-! ===== see ===== -/
set_option maxHeartbeats 1000000 in
theorem m_see {M : Mem} {n : Nat} (h : Inv M n) (x y z : Int32) : Ok1 (fun M => fX11_see M 0 x y z) (fun M => fX12_see M 55 x y z) M := by
  obtain ⟨s, lw, bd, o⟩ := Op_of h
  obtain ⟨q, hq, e1, e2⟩ := Op_n o
  have hS := o.1
  obtain ⟨-, ⟨-, -, -, -, hs, hp, hb⟩, -, hl, -⟩ := id h
  obtain ⟨c, c5, ec, es, er, ev⟩ := id hs
  have es' : mI M 55 24 = nI c := es
  by_cases x1 : x = -1
  · subst x1
    refine ⟨0, stI M 1 2 0, stI (stI M 1 2 0) 55 24 0, n, k_55 hS, ?_, ?_, Inv_rw h rfl rfl (fun b b1 b2 b3 => ?_) (fun f f1 f2 f3 => ?_) (fun b hb => ?_) ?_ (RPlan_e hp ?_ ?_ (es_p (fun b hb => ?_) ?_)) (RBook_e hb ?_ ?_ (es_b (fun b hb => ?_) ?_))⟩
    · simp only [fX11_see, if_true, k_0 hS, r_0_2 hS, k_1 hS, ck_t, rb_s, fX5_clear, bd_s]
    · have hS2 : Sh (stI M 1 2 0) := Sh_1 rfl hS
      simp only [fX12_see, if_true, k_55 hS2, ck_t]
    · rw [row_st (by omega), row_st (by omega)]
    · rw [mI_stI, if_neg (by omega), mI_stI, if_neg (by omega)]
    · rw [mI_stI, if_neg (by omega), mI_stI, if_neg (by omega)]
    · refine ⟨0, by omega, ?_, ?_, fun i hi => ?_, fun i hi => absurd hi (Nat.not_lt_zero _)⟩
      · rw [mI_stI, if_neg (by omega), mI_stI, if_pos ⟨rfl, rfl⟩]
        rfl
      · show mI _ 55 24 = _
        rw [mI_stI, if_pos ⟨rfl, rfl⟩]
        rfl
      · have := er i hi
        rw [sv_70 hi, sv_71 hi, sv_72 hi] at this ⊢
        simpa [mI_stI] using this
    · rw [row_st (by omega), row_st (by omega)]
    · rw [row_st (by omega), row_st (by omega)]
    · rw [row_st (by omega), row_st (by omega)]
    · rw [mI_stI, if_neg (by omega), mI_stI, if_neg (by omega)]
    · rw [row_st (by omega), row_st (by omega)]
    · rw [row_st (by omega), row_st (by omega)]
    · rw [row_st (by omega), row_st (by omega)]
    · rw [mI_stI, if_neg (by omega), mI_stI, if_neg (by omega)]
  rcases cs_person hq x with ⟨p, hpq, hp6, rfl, c1, m1⟩ | ⟨c0, m0⟩
  · rcases cs_cell z with ⟨d, hd, rfl, d1, d2⟩ | ⟨d1, d2⟩
    · rcases rng (L := 9) (K := 8) (n := 9) y rfl rfl (by decide) with ⟨w, hw, rfl, h1, h2, h3, h4, h5⟩ | h1 | ⟨h1, h2, h3, h4, h5⟩
      · by_cases c6 : c = 5
        · subst c6
          refine Ok_m h (a := -4) ?_ ?_
          · simp only [fX11_see, x1, if_false, k_0 hS, c1 M hS e1, bd_s, d1, show ¬ (1 : Int32) = 0 by decide, h1, h4, if_true, r_0_2 hS, k_1 hS, ck_t, rb_s, p_addF (k_1 hS) (L := 5) hl.1 ec]
          · simp only [fX12_see, x1, if_false, k_55 hS, m1 M hS e2, bd_s, d2, wi_1 (L := 9) h1 h5, show ¬ (1 : Int32) = 0 by decide, ck_t, es', show nI 5 = 5 by decide, if_true]
        · have cl : c < 5 := by omega
          have n5 : ¬ nI c = 5 := by
            rw [show (5 : Int32) = nI 5 from rfl, eqL (by omega) (by omega)]
            exact c6
          have ic := inb_n cl (by decide : 5 < 1000000)
          have tc := tn (show c < 1000000 by omega)
          obtain ⟨N, eN⟩ : ∃ N, N = stI (stI (stI (stI M (1 + 1) (c * 3) (nI p)) (1 + 1) (c * 3 + 1) (nI w)) (1 + 1) (c * 3 + 2) (nI d)) 1 2 (nI (c + 1)) := ⟨_, rfl⟩
          have ad := p_add (x := nI p) (y := nI w) (z := nI d) (k_1 hS) (r_1_1 hS) (k_2 hS) (L := 5) (g_2 hS) hl.1 ec cl (by decide)
          rw [← eN] at ad
          have hSN : Sh N := by rw [eN]; exact Sh_1 rfl hS
          have rN : ∀ b, b ≠ 1 → b ≠ 2 → N.2.1 b = M.2.1 b := by
            intro b b1 b2
            rw [eN, row_st b1, row_st b2, row_st b2, row_st b2]
          have rI : ∀ b i, b ≠ 1 → b ≠ 2 → mI N b i = mI M b i := fun b i b1 b2 => congrFun (rN b b1 b2) i
          obtain ⟨P, eP⟩ : ∃ P, P = stI (stI (stI (stI N 70 c (nI p)) 71 c (nI w)) 55 24 (nI (c + 1))) 72 c (nI d) := ⟨_, rfl⟩
          have e2N : mI N 55 1 = nI q := by rw [rI _ _ (by omega) (by omega)]; exact e2
          have esN : mI N 55 24 = nI c := by rw [rI _ _ (by omega) (by omega)]; exact es'
          have rP : ∀ b, b ≠ 55 → ¬ (70 ≤ b ∧ b ≤ 72) → P.2.1 b = N.2.1 b := by
            intro b b1 b2
            rw [eP, row_st (by omega), row_st (by omega), row_st (by omega), row_st (by omega)]
          have rP5 : ∀ f, f ≠ 24 → mI P 55 f = mI N 55 f := by
            intro f hf
            rw [eP, mI_stI, if_neg (by omega), mI_stI, if_neg (by omega), mI_stI, if_neg (by omega), mI_stI, if_neg (by omega)]
          refine ⟨nI (c + 1), N, P, n, k_55 hSN, ?_, ?_, Inv_rw h (by rw [eP, eN]; rfl) (by rw [eP, eN]; rfl) (fun b b1 b2 b3 => ?_) (fun f f1 f2 f3 => ?_) (fun b hb => ?_) ?_ (RPlan_e hp ?_ ?_ (es_p (fun b hb => ?_) ?_)) (RBook_e hb ?_ ?_ (es_b (fun b hb => ?_) ?_))⟩
          · simp only [fX11_see, x1, if_false, k_0 hS, c1 M hS e1, bd_s, d1, show ¬ (1 : Int32) = 0 by decide, h1, h4, if_true, r_0_2 hS, k_1 hS, ck_t, rb_s, ad]
          · rw [eP]
            simp only [fX12_see, x1, if_false, k_55 hSN, m1 N hSN e2N, bd_s, d2, wi_1 (L := 9) h1 h5, show ¬ (1 : Int32) = 0 by decide, ck_t, rb_s, nm_s, esN, n5, r_55_25 hSN, r_55_26 hSN, r_55_27 hSN, k_70 hSN, g_70 hSN, k_71 hSN, g_71 hSN, k_72 hSN, g_72 hSN, ic, tc, isK_stI, mR_stI, mG_stI, mI_stI, show ¬ (55 : Nat) = 70 by decide, show ¬ (55 : Nat) = 71 by decide, show ¬ (55 : Nat) = 72 by decide, false_and, and_self, if_true, nI_1]
          · rw [rP b b2 (by omega), rN b (by omega) (by omega)]
          · rw [rP5 f f1, rI _ _ (by omega) (by omega)]
          · have : mI P b 0 = mI N b 0 := congrFun (rP b (by omega) (by omega)) 0
            rw [this, eN]
            rw [mI_stI, if_neg (by omega), mI_stI, if_neg (by omega), mI_stI, if_neg (by omega), mI_stI, if_neg (by omega)]
          · refine ⟨c + 1, by omega, ?_, ?_, fun i hi => ?_, fun i hi => ?_⟩
            · have : mI P 1 2 = mI N 1 2 := congrFun (rP 1 (by omega) (by omega)) 2
              rw [this, eN, mI_stI, if_pos ⟨rfl, rfl⟩]
            · show mI P 55 24 = _
              rw [eP, mI_stI, if_neg (by omega), mI_stI, if_pos ⟨rfl, rfl⟩]
            · have old := er i hi
              rw [sv_70 hi, sv_71 hi, sv_72 hi] at old ⊢
              have r2 : ∀ j, mI P 2 j = mI N 2 j := fun j => congrFun (rP 2 (by omega) (by omega)) j
              have ar := add_row (M := M) (a := 1) (c := c) (x := nI p) (y := nI w) (z := nI d) (w := nI (c + 1)) i
              rw [← eN] at ar
              have u0 : mI P 70 i = if i = c then nI p else mI M 70 i := by
                rw [eP]
                simp only [mI_stI, show ¬ (70 : Nat) = 72 by decide, show ¬ (70 : Nat) = 55 by decide, show ¬ (70 : Nat) = 71 by decide, false_and, if_false, true_and]
                rw [rI _ _ (by omega) (by omega)]
              have u1 : mI P 71 i = if i = c then nI w else mI M 71 i := by
                rw [eP]
                simp only [mI_stI, show ¬ (71 : Nat) = 72 by decide, show ¬ (71 : Nat) = 55 by decide, show ¬ (71 : Nat) = 70 by decide, false_and, if_false, true_and]
                rw [rI _ _ (by omega) (by omega)]
              have u2 : mI P 72 i = if i = c then nI d else mI M 72 i := by
                rw [eP]
                simp only [mI_stI, show ¬ (72 : Nat) = 71 by decide, show ¬ (72 : Nat) = 55 by decide, show ¬ (72 : Nat) = 70 by decide, false_and, if_false, true_and]
                rw [rI _ _ (by omega) (by omega)]
              rw [r2, r2, r2, u0, u1, u2]
              have ar' : mI N 2 (i * 3) = _ ∧ mI N 2 (i * 3 + 1) = _ ∧ mI N 2 (i * 3 + 2) = _ := ar
              rw [ar'.1, ar'.2.1, ar'.2.2]
              have old' : mI M (1 + 1) (i * 3) = mI M 70 i ∧ mI M (1 + 1) (i * 3 + 1) = mI M 71 i ∧ mI M (1 + 1) (i * 3 + 2) = mI M 72 i := old
              rw [old'.1, old'.2.1, old'.2.2]
              exact ⟨rfl, rfl, rfl⟩
            · have hi5 : i < 5 := by omega
              have u0 : mI P 70 i = if i = c then nI p else mI M 70 i := by
                rw [eP]
                simp only [mI_stI, show ¬ (70 : Nat) = 72 by decide, show ¬ (70 : Nat) = 55 by decide, show ¬ (70 : Nat) = 71 by decide, false_and, if_false, true_and]
                rw [rI _ _ (by omega) (by omega)]
              have u1 : mI P 71 i = if i = c then nI w else mI M 71 i := by
                rw [eP]
                simp only [mI_stI, show ¬ (71 : Nat) = 72 by decide, show ¬ (71 : Nat) = 55 by decide, show ¬ (71 : Nat) = 70 by decide, false_and, if_false, true_and]
                rw [rI _ _ (by omega) (by omega)]
              rw [sv_70 hi5, sv_71 hi5, u0, u1]
              by_cases hic : i = c
              · rw [if_pos hic, if_pos hic]
                exact ⟨⟨p, hp6, rfl⟩, ⟨w, by omega, rfl⟩⟩
              · rw [if_neg hic, if_neg hic, ← sv_70 (M := M) hi5, ← sv_71 (M := M) hi5]
                exact ev i (by omega)
          · rw [rP _ (by omega) (by omega), rN _ (by omega) (by omega)]
          · rw [rP _ (by omega) (by omega), rN _ (by omega) (by omega)]
          · rw [rP _ (by omega) (by omega), rN _ (by omega) (by omega)]
          · rw [rP5 _ (by decide), rI _ _ (by omega) (by omega)]
          · rw [rP _ (by omega) (by omega), rN _ (by omega) (by omega)]
          · rw [rP _ (by omega) (by omega), rN _ (by omega) (by omega)]
          · rw [rP _ (by omega) (by omega), rN _ (by omega) (by omega)]
          · rw [rP5 _ (by decide), rI _ _ (by omega) (by omega)]
      · refine Ok_m h (a := -2) ?_ ?_
        · simp only [fX11_see, x1, if_false, k_0 hS, c1 M hS e1, bd_s, d1, show ¬ (1 : Int32) = 0 by decide, h1, if_true, ck_t]
        · simp only [fX12_see, x1, if_false, k_55 hS, m1 M hS e2, bd_s, d2, wi_0 h1, show ¬ (1 : Int32) = 0 by decide, ck_t, if_true]
      · refine Ok_m h (a := -2) ?_ ?_
        · simp only [fX11_see, x1, if_false, k_0 hS, c1 M hS e1, bd_s, d1, show ¬ (1 : Int32) = 0 by decide, h1, h4, ck_t]
        · simp only [fX12_see, x1, if_false, k_55 hS, m1 M hS e2, bd_s, d2, wi_2 h5, show ¬ (1 : Int32) = 0 by decide, ck_t, if_true]
    · refine Ok_m h (a := -1) ?_ ?_
      · simp only [fX11_see, x1, if_false, k_0 hS, c1 M hS e1, bd_s, d1, show ¬ (1 : Int32) = 0 by decide, if_true, ck_t]
      · simp only [fX12_see, x1, if_false, k_55 hS, m1 M hS e2, bd_s, d2, show ¬ (1 : Int32) = 0 by decide, ck_t, if_true]
  · refine Ok_m h (a := -1) ?_ ?_
    · simp only [fX11_see, x1, if_false, k_0 hS, c0 M hS e1, bd_s, if_true, ck_t]
    · simp only [fX12_see, x1, if_false, k_55 hS, m0 M hS e2, bd_s, ck_t, if_true]
