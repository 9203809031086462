/-! ===== a change of texts, deeds, tapes alone ===== -/
theorem Inv_x {M N : Mem} {n : Nat} (h : Inv M n) (e : N.1 = M.1) (r : ∀ b, (1 ≤ b ∧ b ≤ 12) ∨ (14 ≤ b ∧ b ≤ 15) ∨ (29 ≤ b ∧ b ≤ 54) ∨ (56 ≤ b ∧ b ≤ 61) ∨ (63 ≤ b ∧ b ≤ 68) ∨ (70 ≤ b ∧ b ≤ 76) ∨ b = 78 ∨ 85 ≤ b → N.2.1 b = M.2.1 b) (r0 : ∀ f, f = 5 ∨ f = 13 → mI N 0 f = mI M 0 f) (r5 : ∀ f, f ≠ 8 → f ≠ 34 → mI N 55 f = mI M 55 f) (k1 : IText N) (k2 : IDeed N) (k3 : ITape N) : Inv N n := by
  obtain ⟨h1, h2, h3, h4, h5, h6, h7, h8⟩ := h
  have rI : ∀ b i, (1 ≤ b ∧ b ≤ 12) ∨ (14 ≤ b ∧ b ≤ 15) ∨ (29 ≤ b ∧ b ≤ 54) ∨ (56 ≤ b ∧ b ≤ 61) ∨ (63 ≤ b ∧ b ≤ 68) ∨ (70 ≤ b ∧ b ≤ 76) ∨ b = 78 ∨ 85 ≤ b → mI N b i = mI M b i := fun b i hb => congrFun (r b hb) i
  have f := Fs_1 e
  have fR : ∀ a i, mR N a i = mR M a i := fun a i => by unfold mR; rw [e]
  have esv : ∀ j, j < 130 → sv N j = sv M j := fun j hj => by
    have := src_row j hj
    unfold sv
    rcases this with g | ⟨g1, g2⟩
    · exact rI _ _ (by omega)
    · rw [g1]
      exact r5 _ (by omega) (by omega)
  have eh : hV (sv N) = hV (sv M) := hV_eq esv
  refine ⟨Fs_Sh f h1, ?_, ILaw_c h3 f (r0 _ (Or.inr rfl)) (r5 _ (by decide) (by decide)) (r5 _ (by decide) (by decide)) (fun b hb => r b (by omega)), ILim_c h4 (fun b hb => rI _ _ (by omega)), k1, k2, k3, IImg_c h8 (r0 _ (Or.inl rfl)) (r5 _ (by decide) (by decide)) (fun b hb => r b (by omega)) (fR _ _)⟩
  refine St_c h2 ?_ (by rw [eh]; exact h2.2.1) (by rw [eh]; exact h2.2.2.1) (fR _ _) ⟨r _ (by omega), r _ (by omega)⟩ ⟨r _ (by omega), r _ (by omega)⟩ ⟨r _ (by omega), r _ (by omega)⟩ (fun j _ hj _ _ => esv j hj)
  rw [eh, ← h2.1]
  exact hC_c (fun b b1 b2 => r b (by omega))
/-! ===== counts, the trace, one taken for another ===== -/
theorem m_count {M : Mem} {n : Nat} (h : Inv M n) (x : Int32) : Ok1 (fun M => fX11_count M 0 x) (fun M => fX12_count M 55 x) M := by
  obtain ⟨s, lw, bd, o⟩ := Op_of h
  obtain ⟨q, hq, e1, e2⟩ := Op_n o
  have hS := o.1
  obtain ⟨-, ⟨-, -, -, -, hs, hp, hb⟩, hlw, hl, ht, hd, -⟩ := id h
  obtain ⟨c2, -, a2, b2, -⟩ := id hs
  obtain ⟨c3, -, a3, b3, -⟩ := id hp
  obtain ⟨c4, -, a4, b4, -⟩ := id hb
  obtain ⟨-, a1, b1, -⟩ := id hlw
  obtain ⟨c5, -, a5, b5, -⟩ := id ht
  obtain ⟨c6, -, a6, b6, -⟩ := id hd
  have b2' : mI M 55 24 = nI c2 := b2
  have b3' : mI M 55 28 = nI c3 := b3
  have b4' : mI M 55 31 = nI c4 := b4
  by_cases x0 : x = 0
  · subst x0
    refine Ok_m h (a := nI q) ?_ ?_
    · simp only [fX11_count, k_0 hS, r_0_0 hS, k_31 hS, ck_t, rb_s, if_true, e1]
    · simp only [fX12_count, k_55 hS, ck_t, if_true, e2]
  by_cases x1 : x = 1
  · subst x1
    refine Ok_m h (a := nI n) ?_ ?_
    · simp only [fX11_count, k_0 hS, ck_t, x0, if_true, if_false, a1]
    · simp only [fX12_count, k_55 hS, ck_t, x0, if_true, if_false, b1]
  by_cases x2 : x = 2
  · subst x2
    refine Ok_m h (a := nI c2) ?_ ?_
    · simp only [fX11_count, k_0 hS, r_0_2 hS, k_1 hS, ck_t, rb_s, x0, x1, if_true, if_false, a2]
    · simp only [fX12_count, k_55 hS, ck_t, x0, x1, if_true, if_false, b2']
  by_cases x3 : x = 3
  · subst x3
    refine Ok_m h (a := nI c3) ?_ ?_
    · simp only [fX11_count, k_0 hS, r_0_3 hS, k_3 hS, ck_t, rb_s, x0, x1, x2, if_true, if_false, a3]
    · simp only [fX12_count, k_55 hS, ck_t, x0, x1, x2, if_true, if_false, b3']
  by_cases x4 : x = 4
  · subst x4
    refine Ok_m h (a := nI c4) ?_ ?_
    · simp only [fX11_count, k_0 hS, r_0_4 hS, k_5 hS, ck_t, rb_s, x0, x1, x2, x3, if_true, if_false, a4]
    · simp only [fX12_count, k_55 hS, ck_t, x0, x1, x2, x3, if_true, if_false, b4']
  by_cases x5 : x = 5
  · subst x5
    refine Ok_m h (a := nI c5) ?_ ?_
    · simp only [fX11_count, k_0 hS, ck_t, x0, x1, x2, x3, x4, if_true, if_false, a5]
    · simp only [fX12_count, k_55 hS, ck_t, x0, x1, x2, x3, x4, if_true, if_false, b5]
  by_cases x6 : x = 6
  · subst x6
    refine Ok_m h (a := nI c6) ?_ ?_
    · simp only [fX11_count, k_0 hS, r_0_14 hS, k_16 hS, ck_t, rb_s, x0, x1, x2, x3, x4, x5, if_true, if_false, a6]
    · simp only [fX12_count, k_55 hS, ck_t, x0, x1, x2, x3, x4, x5, if_true, if_false, b6]
  · refine Ok_m h (a := -2) ?_ ?_
    · simp only [fX11_count, x0, x1, x2, x3, x4, x5, x6, if_false]
    · simp only [fX12_count, x0, x1, x2, x3, x4, x5, x6, if_false]
theorem m_trace {M : Mem} {n : Nat} (h : Inv M n) (x : Int32) : Ok1 (fun M => fX11_trace M 0 x) (fun M => fX12_trace M 55 x) M := by
  have hS := h.1
  obtain ⟨b, hb, eb, em, er⟩ := h.2.2.2.2.2.1
  have emin : (if nI b < 20 then nI b else 20 : Int32) = nI (min b 20) := by
    by_cases hh : b < 20
    · rw [if_pos (by rw [show (20 : Int32) = nI 20 from rfl, ltL (by omega) (by omega)]; exact hh), Nat.min_eq_left (by omega)]
    · rw [if_neg (by rw [show (20 : Int32) = nI 20 from rfl, ltL (by omega) (by omega)]; exact hh), Nat.min_eq_right (by omega)]
      rfl
  by_cases h0 : x < 0
  · refine Ok_m h (a := -1) ?_ ?_
    · simp only [fX11_trace, h0, if_true]
    · simp only [fX12_trace, k_55 hS, ck_t, wi_0 h0, bd_s, if_true]
  obtain ⟨k, hk31, e⟩ := nI_of h0
  have hk : x.toInt = k := by rw [e]; exact nI_toInt hk31
  have tb : (nI b).toInt = b := nI_toInt (by omega)
  have tm : (nI (min b 20)).toInt = (min b 20 : Nat) := nI_toInt (by omega)
  have c1 : nI b ≤ x ↔ b ≤ k := by rw [Int32.le_iff_toInt_le, tb, hk]; omega
  have c2 : x < 20 ↔ k < 20 := by rw [Int32.lt_iff_toInt_lt, hk, show (20 : Int32).toInt = 20 from rfl]; omega
  have c3 : nI (min b 20) - 1 < x ↔ min b 20 ≤ k := by rw [n_sub1 h0 (by omega), Int32.le_iff_toInt_le, tm, hk]; omega
  by_cases g : min b 20 ≤ k
  · refine Ok_m h (a := -1) ?_ ?_
    · simp only [fX11_trace, h0, if_false, k_0 hS, r_0_14 hS, k_16 hS, ck_t, rb_s, eb]
      by_cases g1 : b ≤ k
      · rw [if_pos (c1.mpr g1)]
      · rw [if_neg (fun q => g1 (c1.mp q)), if_neg (fun q => by have := c2.mp q; omega)]
    · simp only [fX12_trace, k_55 hS, ck_t, em, emin, wi_2 (c3.mpr g), bd_s, if_true]
  · have k20 : k < 20 := by omega
    have kb : k < b := by omega
    have ik := inb_n k20 (by decide : 20 < 1000000)
    have tk := tn (show k < 1000000 by omega)
    refine Ok_m h (a := mI M 77 k) ?_ ?_
    · simp only [fX11_trace, h0, if_false, k_0 hS, r_0_14 hS, k_16 hS, r_16_3 hS, k_17 hS, g_17 hS, ck_t, rb_s, eb]
      rw [if_neg (fun q => by have := c1.mp q; omega), if_pos (c2.mpr k20), e, ik, ck_t, tk, er k k20 kb]
    · simp only [fX12_trace, k_55 hS, ck_t, em, emin, wi_1 (L := 0) h0 (fun q => g (c3.mp q)), bd_s, show ¬ (1 : Int32) = 0 by decide, if_false, r_55_35 hS, k_77 hS, g_77 hS, rb_s]
      rw [e, ik, ck_t, tk]
def aUpk (o : Nat) : Nat := if o = 4 then 1 else if o = 5 then 2 else if o = 6 then 3 else 0
def aRk (o : Nat) : Nat := if o = 0 then 0 else if o < 4 then 1 else 2
def aTk (k : Nat) : Nat → Nat → Bool
  | 0, _ => false
  | f + 1, o => if o = k then true else if o = 0 then false else aTk k f (aUpk o)
theorem aUp_rk : ∀ o, o ≤ 6 → o ≠ 0 → aUpk o ≤ 6 ∧ aRk (aUpk o) < aRk o := by decide
theorem aRk_3 : ∀ o, o ≤ 6 → aRk o < 3 := by decide
theorem xAb : ∀ o, o ≤ 6 → o ≠ 0 → xAbove.getD o 0 = nI (aUpk o) := by decide +kernel
theorem p_above {M : Mem} {o : Nat} (ho : o ≤ 6) : fX12_above M (nI o) = some (nI (aUpk o), M) := by
  rcases (show o = 0 ∨ o = 1 ∨ o = 2 ∨ o = 3 ∨ o = 4 ∨ o = 5 ∨ o = 6 by omega) with rfl | rfl | rfl | rfl | rfl | rfl | rfl <;> rfl
theorem p_tkL {M : Mem} {k : Nat} {l3 : Int32} (hk : k < 7) : ∀ (f m i o : Nat), o ≤ 6 → aRk o < f → i + f ≤ 6 → gX11_taken_40 (m + f + 1) M (nI k) l3 (nI o) (nI i) = some (if aTk k f o = true then l3 else -12, M) := by
  intro f
  induction f with
  | zero => intro m i o _ h; omega
  | succ f ih =>
    intro m i o ho hr hi
    rw [show m + (f + 1) + 1 = (m + f + 1) + 1 by omega, gX11_taken_40_s, if_neg (by rw [show (7 : Int32) = nI 7 from rfl, leL (by omega) (by omega)]; omega), if_neg (nI_pos (by omega))]
    unfold aTk
    by_cases g : o = k
    · rw [if_pos (by rw [g]), if_pos g, if_pos rfl]
    · rw [if_neg (by rw [eqL (by omega) (by omega)]; exact g), if_neg g, inb_n (show o < 7 by omega) (by decide), ck_t, tn (show o < 1000000 by omega), nI_1]
      by_cases g0 : o = 0
      · subst g0
        rw [if_pos rfl, show xAbove.getD 0 0 = (-1 : Int32) from rfl, show m + f + 1 = (m + f) + 1 by omega, gX11_taken_40_s, if_neg (by rw [show (7 : Int32) = nI 7 from rfl, leL (by omega) (by omega)]; omega), if_pos (by decide), if_neg (by decide)]
      · rw [if_neg g0, xAb o ho g0]
        obtain ⟨u1, u2⟩ := aUp_rk o ho g0
        exact ih m (i + 1) (aUpk o) u1 (by omega) (by omega)
theorem p_mtkL {M : Mem} {k p w : Nat} (hS : Sh M) (hk : k < 7) (hp : p < 6) (ew : mI M 57 p = nI w) : ∀ (f m o : Nat), o ≤ 6 → aRk o < f → gX12_taken_31 (m + f + 1) M 55 (nI p) (nI k) (nI o) = some (if aTk k f o = true then nI w else -12, M) := by
  intro f
  induction f with
  | zero => intro m o _ h; omega
  | succ f ih =>
    intro m o ho hr
    rw [show m + (f + 1) + 1 = (m + f + 1) + 1 by omega, gX12_taken_31_s]
    unfold aTk
    by_cases g : o = k
    · rw [if_pos (by rw [g]), if_pos g, if_pos rfl]
      unfold gX12_taken_48
      rw [if_pos (by rw [g])]
      simp only [k_55 hS, r_55_2 hS, k_57 hS, g_57 hS, ck_t, rb_s, inb_n hp (by decide : 6 < 1000000), tn (show p < 1000000 by omega), ew]
    · have gn : ¬ nI o = nI k := by rw [eqL (by omega) (by omega)]; exact g
      rw [if_neg gn, if_neg g]
      by_cases g0 : o = 0
      · subst g0
        rw [if_pos (by decide), if_pos rfl]
        unfold gX12_taken_48
        rw [if_neg gn, if_neg (by decide)]
      · rw [if_neg (by rw [show (0 : Int32) = nI 0 from rfl, leL (by omega) (by omega)]; omega), if_neg g0, p_above ho, bd_s]
        obtain ⟨u1, u2⟩ := aUp_rk o ho g0
        exact ih m (aUpk o) u1 (by omega)
theorem m_taken {M : Mem} {n : Nat} (h : Inv M n) (x y : Int32) : Ok1 (fun M => fX11_taken M 0 x y) (fun M => fX12_taken M 55 x y) M := by
  obtain ⟨s, lw, bd, o⟩ := Op_of h
  obtain ⟨q, hq, e1, e2⟩ := Op_n o
  have hS := o.1
  have eH := o.2.2.2.2.1
  rcases rng (L := 7) (K := 6) (n := 7) y rfl rfl (by decide) with ⟨k, hk, rfl, h1, h2, h3, h4, h5⟩ | h1 | ⟨h1, h2, h3, h4, h5⟩
  · rcases cs_person hq x with ⟨p, hp, hp6, rfl, c1, m1⟩ | ⟨c0, m0⟩
    · have ip := inb_n hp6 (by decide : 6 < 1000000)
      have tp := tn (show p < 1000000 by omega)
      obtain ⟨w, hw, ew⟩ := o.2.2.2.2.2.1.1.2.2.2.1 p hp6
      have ew' : mI M 57 p = nI w := by rw [hM_1 hp6]; exact ew
      obtain ⟨m, hm⟩ := FUs 3 (by decide)
      have a1 := p_tkL (M := M) (l3 := nI w) hk 3 m 0 w hw (aRk_3 w hw) (by omega)
      have a2 := p_mtkL hS hk hp6 ew' 3 m w hw (aRk_3 w hw)
      rw [← hm] at a1 a2
      refine Ok_m h (a := if aTk k 3 w = true then nI w else -12) ?_ ?_
      · simp only [fX11_taken, h1, h3, if_true, if_false, k_0 hS, c1 M hS e1, ck_t, bd_s, rb_s, show ¬ (1 : Int32) = 0 by decide, r_0_0 hS, k_31 hS, r_31_5 hS, k_33 hS, g_33 hS, ip, tp, cm_1 eH hp6, ew']
        exact a1
      · simp only [fX12_taken, wi_1 (L := 7) h1 h5, bd_s, show ¬ (1 : Int32) = 0 by decide, if_false, k_55 hS, ck_t, m1 M hS e2, r_55_2 hS, k_57 hS, g_57 hS, rb_s, ip, tp, ew']
        exact a2
    · refine Ok_m h (a := -11) ?_ ?_
      · simp only [fX11_taken, h1, h3, if_true, if_false, k_0 hS, c0 M hS e1, ck_t, bd_s]
      · simp only [fX12_taken, wi_1 (L := 7) h1 h5, bd_s, show ¬ (1 : Int32) = 0 by decide, if_false, if_true, k_55 hS, ck_t, m0 M hS e2]
  · refine Ok_m h (a := -2) ?_ ?_
    · simp only [fX11_taken, h1, if_true]
    · simp only [fX12_taken, wi_0 h1, bd_s, if_true]
  · refine Ok_m h (a := -2) ?_ ?_
    · simp only [fX11_taken, h1, h3, if_false]
    · simp only [fX12_taken, wi_2 h5, bd_s, if_true]
/-! ===== tapes ===== -/
theorem cs_tape (x : Int32) : (∃ t, t < 6 ∧ x = nI t ∧ (∀ M, fX11_isTape M x = some (1, M)) ∧ (∀ M, fX12_isTape M x = some (1, M)) ∧ ∀ M, fX12_within M x 0 5 = some (1, M)) ∨ ((∀ M, fX11_isTape M x = some (0, M)) ∧ (∀ M, fX12_isTape M x = some (0, M)) ∧ ∀ M, fX12_within M x 0 5 = some (0, M)) := by
  rcases rng (L := 6) (K := 5) (n := 6) x rfl rfl (by decide) with ⟨c, hc, e, h1, h2, h3, h4, h5⟩ | h1 | ⟨h1, h2, h3, h4, h5⟩
  · have w : ∀ M, fX12_within M x 0 5 = some (1, M) := fun M => wi_1 (L := 0) h1 h5
    refine Or.inl ⟨c, hc, e, fun M => ?_, fun M => ?_, w⟩
    · unfold fX11_isTape
      rw [if_neg h1, if_neg h2]
    · unfold fX12_isTape
      rw [w, bd_s]
      rfl
  · have w : ∀ M, fX12_within M x 0 5 = some (0, M) := fun M => wi_0 h1
    refine Or.inr ⟨fun M => ?_, fun M => ?_, w⟩
    · unfold fX11_isTape
      rw [if_pos h1]
    · unfold fX12_isTape
      rw [w, bd_s]
      rfl
  · have w : ∀ M, fX12_within M x 0 5 = some (0, M) := fun M => wi_2 h5
    refine Or.inr ⟨fun M => ?_, fun M => ?_, w⟩
    · unfold fX11_isTape
      rw [if_neg h1, if_pos h2]
    · unfold fX12_isTape
      rw [w, bd_s]
      rfl
theorem tp_st {M : Mem} (h : ITape M) {t : Nat} (ht : t < 6) : (mI M 18 t = -1 ∧ mI M 82 t = -1) ∨ ∃ s l, s ≤ 4 ∧ l ≤ 60 ∧ mI M 18 t = nI s ∧ mI M 82 t = nI s ∧ mI M 19 t = nI l ∧ mI M 83 t = nI l ∧ ∀ i, i < l → mL M 20 (t * 60 + i) = mL M 84 (t * 60 + i) := by
  obtain ⟨e, g | ⟨⟨s, s1, s2⟩, l, l1, l2, l3, l4⟩⟩ := h t ht
  · exact Or.inl ⟨g, e.symm.trans g⟩
  · exact Or.inr ⟨s, l, s1, l1, s2, e.symm.trans s2, l2, l3, l4⟩
theorem cs_ix {l : Nat} (hl : l ≤ 60) (x : Int32) : (∃ k, k < l ∧ x = nI k ∧ ¬ x < 0 ∧ x < nI l ∧ ∀ M, fX12_within M x 0 (nI l - 1) = some (1, M)) ∨ ((x < 0 ∨ (¬ x < 0 ∧ ¬ x < nI l)) ∧ ∀ M, fX12_within M x 0 (nI l - 1) = some (0, M)) := by
  by_cases h0 : x < 0
  · exact Or.inr ⟨Or.inl h0, fun M => wi_0 h0⟩
  · obtain ⟨k, hk31, e⟩ := nI_of h0
    have c1 : x < nI l ↔ k < l := by rw [e]; exact nI_ltI hk31 (by omega)
    have c3 : nI l - 1 < x ↔ l ≤ k := by rw [n_sub1 h0 (by omega), e]; exact nI_leI (by omega) hk31
    by_cases g : k < l
    · exact Or.inl ⟨k, g, e, h0, c1.mpr g, fun M => wi_1 (L := 0) h0 (fun q => by have := c3.mp q; omega)⟩
    · exact Or.inr ⟨Or.inr ⟨h0, fun q => g (c1.mp q)⟩, fun M => wi_2 (c3.mpr (by omega))⟩
theorem tix (t i : Nat) : nI t * 60 + nI i = nI (t * 60 + i) ∧ 60 * nI t + nI i = nI (t * 60 + i) := by
  constructor
  · rw [show (60 : Int32) = nI 60 from rfl, pk_mul, nI_add]
  · rw [show (60 : Int32) = nI 60 from rfl, pk_mul, nI_add, Nat.mul_comm]
theorem nm1 {s : Nat} (h : s ≤ 4) : ¬ nI s = -1 ∧ 0 ≤ nI s ∧ ¬ nI s < 0 := ⟨m1_ne (by omega), nI_pos' (by omega), nI_pos (by omega)⟩
theorem m_read {M : Mem} {n : Nat} (h : Inv M n) (x y : Int32) : Ok1 (fun M => fX11_read M 0 x y) (fun M => fX12_read M 55 x y) M := by
  have hS := h.1
  have hT := h.2.2.2.2.2.2.1
  rcases cs_tape x with ⟨t, ht, rfl, c1, m1, -⟩ | ⟨c0, m0, -⟩
  · have it := inb_n ht (by decide : 6 < 1000000)
    have tt := tn (show t < 1000000 by omega)
    rcases tp_st hT ht with ⟨a1, a2⟩ | ⟨s, l, s4, l60, a1, a2, a3, a4, a5⟩
    · refine Ok_m h (a := -9223372036854775808) ?_ ?_
      · simp only [fX11_read, c1, bd_s, show ¬ (1 : Int32) = 0 by decide, if_false, if_true, k_0 hS, r_0_15 hS, k_18 hS, g_18 hS, it, tt, ck_t, rb_s, a1]
      · simp only [fX12_read, m1, bd_s, show ¬ (1 : Int32) = 0 by decide, if_false, if_true, k_55 hS, r_55_41 hS, k_82 hS, g_82 hS, it, tt, ck_t, rb_s, a2, show (-1 : Int32) < 0 by decide]
    · obtain ⟨z1, z2, z3⟩ := nm1 s4
      rcases cs_ix l60 y with ⟨i, hi, rfl, h0, h1, w⟩ | ⟨g, w⟩
      · have ii : inb (nI (t * 60 + i)) 360 = true := inb_n (by omega) (by decide)
        have ti := tn (show t * 60 + i < 1000000 by omega)
        refine Ok_m h (a := mL M 84 (t * 60 + i)) ?_ ?_
        · simp only [fX11_read, c1, bd_s, show ¬ (1 : Int32) = 0 by decide, if_false, if_true, k_0 hS, r_0_15 hS, r_0_16 hS, r_0_17 hS, k_18 hS, g_18 hS, k_19 hS, g_19 hS, k_20 hS, g_20 hS, it, tt, ck_t, rb_s, a1, a3, z1, h0, h1, (tix t i).1, ii, ti, a5 i hi]
        · simp only [fX12_read, m1, bd_s, show ¬ (1 : Int32) = 0 by decide, if_false, if_true, k_55 hS, r_55_41 hS, r_55_42 hS, r_55_43 hS, k_82 hS, g_82 hS, k_83 hS, g_83 hS, k_84 hS, g_84 hS, it, tt, ck_t, rb_s, a2, a4, z3, w, (tix t i).2, ii, ti]
      · refine Ok_m h (a := -9223372036854775808) ?_ ?_
        · simp only [fX11_read, c1, bd_s, show ¬ (1 : Int32) = 0 by decide, if_false, k_0 hS, r_0_15 hS, r_0_16 hS, k_18 hS, g_18 hS, k_19 hS, g_19 hS, it, tt, ck_t, rb_s, a1, a3, z1]
          rcases g with g | ⟨g, g2⟩
          · rw [if_pos g]
          · rw [if_neg g, if_neg g2]
        · simp only [fX12_read, m1, bd_s, show ¬ (1 : Int32) = 0 by decide, if_false, if_true, k_55 hS, r_55_41 hS, r_55_42 hS, k_82 hS, g_82 hS, k_83 hS, g_83 hS, it, tt, ck_t, rb_s, a2, a4, z3, w]
  · refine Ok_m h (a := -9223372036854775808) ?_ ?_
    · simp only [fX11_read, c0, bd_s, if_true]
    · simp only [fX12_read, m0, bd_s, if_true]
theorem ITape_up {M N : Mem} {t : Nat} (h : ITape M) (es : ∀ b, b = 18 ∨ b = 19 ∨ b = 82 ∨ b = 83 → ∀ i, i < 6 → i ≠ t → mI N b i = mI M b i) (el : ∀ b, b = 20 ∨ b = 84 → ∀ i, i < t * 60 ∨ t * 60 + 60 ≤ i → mL N b i = mL M b i) (k : t < 6 → mI N 18 t = mI N 82 t ∧ (mI N 18 t = -1 ∨ (∃ s, s ≤ 4 ∧ mI N 18 t = nI s) ∧ ∃ l, l ≤ 60 ∧ mI N 19 t = nI l ∧ mI N 83 t = nI l ∧ ∀ i, i < l → mL N 20 (t * 60 + i) = mL N 84 (t * 60 + i))) : ITape N := by
  intro u hu
  by_cases e : u = t
  · subst e
    exact k hu
  · have := h u hu
    rw [es 18 (by omega) u hu e, es 82 (by omega) u hu e, es 19 (by omega) u hu e, es 83 (by omega) u hu e]
    refine ⟨this.1, ?_⟩
    rcases this.2 with g | ⟨g1, l, l1, l2, l3, l4⟩
    · exact Or.inl g
    · refine Or.inr ⟨g1, l, l1, l2, l3, fun i hi => ?_⟩
      rw [el 20 (Or.inl rfl) _ (by omega), el 84 (Or.inr rfl) _ (by omega)]
      exact l4 i hi
/-- tapes are put otherwise, nothing else -/
theorem Inv_tp {M N : Mem} {n : Nat} (h : Inv M n) (e : N.1 = M.1) (r : ∀ b, b ≠ 18 → b ≠ 19 → b ≠ 82 → b ≠ 83 → N.2.1 b = M.2.1 b) (k : ITape N) : Inv N n := by
  have rI : ∀ b i, b ≠ 18 → b ≠ 19 → b ≠ 82 → b ≠ 83 → mI N b i = mI M b i := fun b i b1 b2 b3 b4 => congrFun (r b b1 b2 b3 b4) i
  exact Inv_x h e (fun b hb => r b (by omega) (by omega) (by omega) (by omega)) (fun f _ => rI _ _ (by omega) (by omega) (by omega) (by omega)) (fun f _ _ => rI _ _ (by omega) (by omega) (by omega) (by omega)) (IText_c h.2.2.2.2.1 (rI _ _ (by omega) (by omega) (by omega) (by omega)) (rI _ _ (by omega) (by omega) (by omega) (by omega)) (fun b hb => r b (by omega) (by omega) (by omega) (by omega))) (IDeed_c h.2.2.2.2.2.1 (rI _ _ (by omega) (by omega) (by omega) (by omega)) (fun b hb => r b (by omega) (by omega) (by omega) (by omega))) k
def aIt (s : Nat) (v : Int64) : Int64 := if s = 0 then v.toInt32.toInt8.toInt32.toInt64 else if s = 1 then v.toInt32.toInt16.toInt32.toInt64 else if s = 2 then v.toInt32.toInt64 else if s = 3 then v else if lg_cmp v 0 = 0 then 0 else 1
theorem p_asItem {M : Mem} {s : Nat} {v : Int64} (hs : s ≤ 4) : fX11_asItem M (nI s) v = some (aIt s v, M) ∧ fX12_kept M (nI s) v = some (aIt s v, M) := by
  rcases (show s = 0 ∨ s = 1 ∨ s = 2 ∨ s = 3 ∨ s = 4 by omega) with rfl | rfl | rfl | rfl | rfl
  · exact ⟨rfl, rfl⟩
  · exact ⟨rfl, rfl⟩
  · exact ⟨rfl, rfl⟩
  · exact ⟨rfl, rfl⟩
  · constructor
    · show (if lg_cmp v 0 = 0 then some ((0 : Int64), M) else some (1, M)) = some (if lg_cmp v 0 = 0 then 0 else 1, M)
      split <;> rfl
    · show (if lg_cmp v 0 = 0 then some ((0 : Int64), M) else some (1, M)) = some (if lg_cmp v 0 = 0 then 0 else 1, M)
      split <;> rfl
theorem m_item {M : Mem} {n : Nat} (h : Inv M n) (x y : Int32) (v : Int64) : Ok1 (fun M => fX11_item M 0 x y v) (fun M => fX12_item M 55 x y v) M := by
  have hS := h.1
  have hT := h.2.2.2.2.2.2.1
  rcases cs_tape x with ⟨t, ht, rfl, c1, m1, -⟩ | ⟨c0, m0, -⟩
  · have it := inb_n ht (by decide : 6 < 1000000)
    have tt := tn (show t < 1000000 by omega)
    rcases tp_st hT ht with ⟨a1, a2⟩ | ⟨s, l, s4, l60, a1, a2, a3, a4, a5⟩
    · refine Ok_m h (a := -11) ?_ ?_
      · simp only [fX11_item, c1, bd_s, show ¬ (1 : Int32) = 0 by decide, if_false, if_true, k_0 hS, r_0_15 hS, k_18 hS, g_18 hS, it, tt, ck_t, rb_s, a1]
      · simp only [fX12_item, m1, bd_s, show ¬ (1 : Int32) = 0 by decide, if_false, if_true, k_55 hS, r_55_41 hS, k_82 hS, g_82 hS, it, tt, ck_t, rb_s, a2, show ¬ (0 : Int32) ≤ -1 by decide]
    · obtain ⟨z1, z2, z3⟩ := nm1 s4
      rcases cs_ix l60 y with ⟨i, hi, rfl, h0, h1, w⟩ | ⟨g, w⟩
      · have ii : inb (nI (t * 60 + i)) 360 = true := inb_n (by omega) (by decide)
        have ti := tn (show t * 60 + i < 1000000 by omega)
        have hS2 : Sh (stL M 20 (t * 60 + i) (aIt s v)) := Sh_1 rfl hS
        refine ⟨1, stL M 20 (t * 60 + i) (aIt s v), stL (stL M 20 (t * 60 + i) (aIt s v)) 84 (t * 60 + i) (aIt s v), n, k_55 hS, ?_, ?_, Inv_tp h rfl (fun _ _ _ _ _ => rfl) (ITape_up (t := t) hT (fun _ _ _ _ _ => rfl) (fun b hb j hj => ?_) (fun _ => ?_))⟩
        · simp only [fX11_item, c1, bd_s, show ¬ (1 : Int32) = 0 by decide, if_false, if_true, k_0 hS, r_0_15 hS, r_0_16 hS, r_0_17 hS, k_18 hS, g_18 hS, k_19 hS, g_19 hS, k_20 hS, g_20 hS, it, tt, ck_t, rb_s, a1, a3, z1, h0, h1, (p_asItem s4).1, (tix t i).1, ii, ti]
        · simp only [fX12_item, m1, bd_s, show ¬ (1 : Int32) = 0 by decide, if_false, if_true, k_55 hS2, r_55_41 hS2, r_55_42 hS2, r_55_43 hS2, k_82 hS2, g_82 hS2, k_83 hS2, g_83 hS2, k_84 hS2, g_84 hS2, it, tt, ck_t, rb_s, mI_stL, a2, a4, z2, w, (p_asItem s4).2, (tix t i).2, ii, ti]
        · rw [mL_stL, if_neg (by omega), mL_stL, if_neg (by omega)]
        · refine ⟨a1.trans a2.symm, Or.inr ⟨⟨s, s4, a1⟩, l, l60, a3, a4, fun j hj => ?_⟩⟩
          simp only [mL_stL]
          by_cases e : j = i
          · subst e
            simp
          · simp [e, a5 j hj]
      · refine Ok_m h (a := -13) ?_ ?_
        · simp only [fX11_item, c1, bd_s, show ¬ (1 : Int32) = 0 by decide, if_false, k_0 hS, r_0_15 hS, r_0_16 hS, k_18 hS, g_18 hS, k_19 hS, g_19 hS, it, tt, ck_t, rb_s, a1, a3, z1]
          rcases g with g | ⟨g, g2⟩
          · rw [if_pos g]
          · rw [if_neg g, if_neg g2]
        · simp only [fX12_item, m1, bd_s, show ¬ (1 : Int32) = 0 by decide, if_false, if_true, k_55 hS, r_55_41 hS, r_55_42 hS, k_82 hS, g_82 hS, k_83 hS, g_83 hS, it, tt, ck_t, rb_s, a2, a4, z2, w]
  · refine Ok_m h (a := -1) ?_ ?_
    · simp only [fX11_item, c0, bd_s, if_true]
    · simp only [fX12_item, m0, bd_s, if_true]
