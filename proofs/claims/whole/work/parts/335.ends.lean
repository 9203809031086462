/-! ===== ends ===== -/
theorem Hb_mono {b b2 : Nat} {H : Hall} (h : Hb b H) (hb : b ≤ b2) : Hb b2 H := by
  obtain ⟨h1, g, g1, g2⟩ := h
  exact ⟨h1, g, by omega, g2⟩
def PlOk (x y : Int32) : Prop := x = 0 ∨ (x = 1 ∧ ∃ w, w < 25 ∧ y = nI w) ∨ ((x = 2 ∨ x = 3) ∧ ∃ p, p < 6 ∧ y = nI p)
def aPl (lw : Law) (bd x y : Int32) (H : Hall) : Hall := if x = 0 then aHour lw bd H else if x = 1 then up2 H 0 y.toNatClampNeg (aMore (H 0 y.toNatClampNeg) 10) else up2 H 4 y.toNatClampNeg (if x = 2 then 1 else 0)
def aPlanL (lw : Law) (bd : Int32) (S : Nat → Int32) : Nat → Nat → Hall → Hall
  | 0, _, H => H
  | n + 1, i, H => aPlanL lw bd S n (i + 1) (aPl lw bd (S (88 + i)) (S (98 + i)) H)
def aEnd (bd y : Int32) (H : Hall) : Int32 := if y = 0 then aWear H 25 0 0 else aBald bd H 25 0 0
theorem Hb_pl {lw : Law} {bd : Int32} {b : Nat} {H : Hall} {x y : Int32} (h : Hb b H) (hv : PlOk x y) (hb : b < 20000) : Hb (b + 1) (aPl lw bd x y H) := by
  unfold aPl
  rcases hv with rfl | ⟨rfl, w, hw, rfl⟩ | ⟨hx, p, hp, rfl⟩
  · rw [if_pos rfl]
    exact (Hb_hour h hb).1
  · rw [if_neg (by decide), if_pos rfl, tn (by omega)]
    obtain ⟨u, hu, eu⟩ := h.1.2.2.1 w hw
    exact Hb_mono (Hb_more (i := 10) h hw eu (by omega)) (by omega)
  · rw [if_neg (by rcases hx with rfl | rfl <;> decide), if_neg (by rcases hx with rfl | rfl <;> decide), tn (by omega)]
    refine Hb_mono ⟨Hok_away h.1 ?_, h.2⟩ (by omega)
    split
    · exact Or.inr rfl
    · exact Or.inl rfl
theorem p_carry {M : Mem} {s : Nat} {lw : Law} {bd b : Nat} {x y : Int32} (t : Tr M s lw bd b) (hb : b < 20000) (hv : PlOk x y) : ∃ N, fX11_carryOutInTrial M 0 x y = some ((), N) ∧ Fr M N 39 ∧ hC N 39 = aPl lw (nI bd) x y (hC M 39) ∧ Tr N s lw bd (b + 1) := by
  have hS := t.1
  have hB := Hb_pl (lw := lw) (bd := nI bd) t.2.2.2 hv hb
  rcases hv with rfl | ⟨rfl, w, hw, rfl⟩ | ⟨hx, p, hp, rfl⟩
  · obtain ⟨N, n1, n2, n3, n4⟩ := t_goHour t hb
    refine ⟨N, ?_, n2, ?_, n4⟩
    · simp only [fX11_carryOutInTrial, if_true, k_0 hS, r_0_1 hS, k_39 hS, ck_t, rb_s, n1, bd_s]
    · rw [n3]
      unfold aPl
      rw [if_pos rfl]
  · have e : aPl lw (nI bd) 1 (nI w) (hC M 39) = up2 (hC M 39) 0 w (aMore (hC M 39 0 w) 10) := by
      unfold aPl
      rw [if_neg (by decide), if_pos rfl, tn (by omega)]
    have f : Fr M (stI M 40 w (aMore (hC M 39 0 w) 10)) 39 := Fr_stI (by decide)
    have hp : hC (stI M 40 w (aMore (hC M 39 0 w) 10)) 39 = up2 (hC M 39) 0 w (aMore (hC M 39 0 w) 10) := hx_put (b := 40) (c := 39) (k := 0) (by decide) hw (by decide)
    refine ⟨_, ?_, f, by rw [e]; exact hp, Tr_Fr t f (by rw [hp, ← e]; exact hB)⟩
    simp only [fX11_carryOutInTrial, show ¬ (1 : Int32) = 0 by decide, if_false, if_true, k_0 hS, r_0_1 hS, k_39 hS, ck_t, rb_s, p_htread (x := 10) (Hl_39 hS) hw, bd_s]
  · have ip := inb_n hp (by decide : 6 < 1000000)
    have tp := tn (show p < 1000000 by omega)
    have x0 : ¬ x = 0 := by rcases hx with rfl | rfl <;> decide
    have x1 : ¬ x = 1 := by rcases hx with rfl | rfl <;> decide
    have e : aPl lw (nI bd) x (nI p) (hC M 39) = up2 (hC M 39) 4 p (if x = 2 then 1 else 0) := by
      unfold aPl
      rw [if_neg x0, if_neg x1, tp]
    have f : Fr M (stI M 44 p (if x = 2 then 1 else 0)) 39 := Fr_stI (by decide)
    have hp : hC (stI M 44 p (if x = 2 then 1 else 0)) 39 = up2 (hC M 39) 4 p (if x = 2 then 1 else 0) := hx_put (b := 40) (c := 39) (k := 4) (by decide) hp (by decide)
    refine ⟨_, ?_, f, by rw [e]; exact hp, Tr_Fr t f (by rw [hp, ← e]; exact hB)⟩
    simp only [fX11_carryOutInTrial, x0, x1, if_false, k_0 hS, r_0_1 hS, k_39 hS, r_39_8 hS, k_44 hS, g_44 hS, ip, tp, ck_t, rb_s]
    split <;> rfl
theorem p_endL {s c : Nat} {lw : Law} {bd : Nat} {S : Nat → Int32} {y : Int32} (hc : c ≤ 10) (ev : ∀ i, i < c → PlOk (S (88 + i)) (S (98 + i))) : ∀ (k m i b : Nat) (M : Mem), i + k = c → Tr M s lw bd b → b + k ≤ 20000 → mI M 3 2 = nI c → (∀ i, i < 10 → mI M 4 (i * 3) = S (88 + i) ∧ mI M 4 (i * 3 + 1) = S (98 + i)) → ∃ N, gX11_ends_24 (m + k + 1) M 0 y (nI i) = some (aEnd (nI bd) y (aPlanL lw (nI bd) S k i (hC M 39)), N) ∧ Fr M N 39 := by
  intro k
  induction k with
  | zero =>
    intro m i b M hi t hb e2 er
    have hS := t.1
    refine ⟨M, ?_, Fr_r⟩
    rw [gX11_ends_24_s]
    simp only [k_0 hS, r_0_3 hS, k_3 hS, ck_t, rb_s, e2]
    rw [if_pos (by rw [leL (by omega) (by omega)]; omega)]
    show _ = some (aEnd (nI bd) y (hC M 39), M)
    unfold aEnd
    split
    · simp only [r_0_1 hS, k_39 hS, ck_t, rb_s, p_wearOfAll (Hl_39 hS), bd_s]
    · simp only [r_0_1 hS, k_39 hS, ck_t, rb_s, p_countBald (Hl_39 hS) t.2.1 t.2.2.1, bd_s]
  | succ k ih =>
    intro m i b M hi t hb e2 er
    have hS := t.1
    have q0 : fX5_part M 3 (nI i) 0 = some (mI M (3 + 1) (i * 3), M) := p_part5 (M := M) (a := 3) (i := i) (j := 0) (y := 0) (k_3 hS) (r_3_1 hS) (k_4 hS) (L := 10) (g_4 hS) (by omega) (by decide) (by decide) rfl
    have q1 := p_part5 (M := M) (a := 3) (i := i) (j := 1) (y := 1) (k_3 hS) (r_3_1 hS) (k_4 hS) (L := 10) (g_4 hS) (by omega) (by decide) (by decide) rfl
    rw [(er i (by omega)).1] at q0
    rw [(er i (by omega)).2] at q1
    obtain ⟨N, n1, n2, n3, n4⟩ := p_carry t (by omega) (ev i (by omega))
    have r : ∀ b j, b < 39 → mI N b j = mI M b j := fun b j hb => congrFun (n2.2.2 b (by omega)) j
    obtain ⟨P, p1, p2⟩ := ih m (i + 1) (b + 1) N (by omega) n4 (by omega) (by rw [r _ _ (by omega)]; exact e2) (fun j hj => by rw [r _ _ (by omega), r _ _ (by omega)]; exact er j hj)
    refine ⟨P, ?_, Fr_t n2 p2⟩
    rw [show m + (k + 1) + 1 = (m + k + 1) + 1 by omega, gX11_ends_24_s]
    simp only [k_0 hS, r_0_3 hS, k_3 hS, ck_t, rb_s, e2]
    rw [if_neg (by rw [leL (by omega) (by omega)]; omega)]
    simp only [q0, q1, bd_s, k_0 hS, r_0_3 hS, k_3 hS, ck_t, rb_s, n1, nI_1, p1, n3]
    rfl
theorem p_mendL {c : Nat} {lw : Law} {bd0 : Int32} {S : Nat → Int32} {y : Int32} (hc : c ≤ 10) (ev : ∀ i, i < c → PlOk (S (88 + i)) (S (98 + i))) : ∀ (k m i b : Nat) (M : Mem), i + k = c → Sh M → Mq M lw bd0 → Hb b (hM M) → b + k ≤ 20000 → mI M 55 28 = nI c → (∀ i, i < 10 → mI M 73 i = S (88 + i) ∧ mI M 74 i = S (98 + i)) → ∃ N, gX12_ends_21 (m + k + 1) M 55 y (nI i) = gX12_ends_21 (m + 1) N 55 y (nI c) ∧ Fm M N ∧ hM N = aPlanL lw bd0 S k i (hM M) := by
  intro k
  induction k with
  | zero =>
    intro m i b M hi h hq hH hb e2 er
    have : i = c := by omega
    subst this
    exact ⟨M, rfl, Fm_r, rfl⟩
  | succ k ih =>
    intro m i b M hi h hq hH hb e2 er
    have i10 : i < 10 := by omega
    have hv := ev i (by omega)
    have hB := Hb_pl (lw := lw) (bd := bd0) hH hv (by omega)
    obtain ⟨v0, v1⟩ := er i i10
    have nx : ∀ N, Fm M N → hM N = aPl lw bd0 (S (88 + i)) (S (98 + i)) (hM M) → ∃ P, gX12_ends_104 (gX12_ends_21 (m + k + 1)) N 55 y (nI i) = gX12_ends_21 (m + 1) P 55 y (nI c) ∧ Fm M P ∧ hM P = aPlanL lw bd0 S (k + 1) i (hM M) := by
      intro N f e
      obtain ⟨P, p1, p2, p3⟩ := ih m (i + 1) (b + 1) N (by omega) (Fm_Sh f h) (Fm_Mq f hq) (by rw [e]; exact hB) (by omega) (by rw [f.2.2.2 28 (by decide)]; exact e2) (fun j hj => by
        have a1 : mI N 73 j = mI M 73 j := congrFun (f.2.2.1 73 (by omega)) j
        have a2 : mI N 74 j = mI M 74 j := congrFun (f.2.2.1 74 (by omega)) j
        rw [a1, a2]
        exact er j hj)
      refine ⟨P, ?_, Fm_t f p2, ?_⟩
      · unfold gX12_ends_104
        rw [nI_1]
        exact p1
      · rw [p3, e]
        rfl
    rw [show m + (k + 1) + 1 = (m + k + 1) + 1 by omega, gX12_ends_21_s, k_55 h, ck_t, e2, if_neg (by rw [leL (by omega) (by omega)]; omega)]
    simp only [r_55_30 h, r_55_29 h, k_73 h, g_73 h, k_74 h, g_74 h, ck_t, rb_s, inb_n i10 (by decide : 10 < 1000000), tn (show i < 1000000 by omega), v0, v1]
    rcases hv with hx | ⟨hx, w, hw, ew⟩ | ⟨hx, p, hp, ep⟩
    · obtain ⟨N, n1, n2, n3⟩ := p_mhour h hq hH.1
      rw [if_pos hx, n1, bd_s]
      refine nx N n2 ?_
      rw [n3]
      unfold aPl
      rw [if_pos hx]
    · obtain ⟨u, hu, eu⟩ := hH.1.2.2.1 w hw
      have hl : aHeld (nI u + 10) = aMore (nI u) 10 := aHeld_more (n := 10) (by omega)
      rw [if_neg (by rw [hx]; decide), if_pos hx]
      simp only [r_55_0 h, k_56 h, g_56 h, ck_t, rb_s, ew, inb_n hw (by decide : 25 < 1000000), tn (show w < 1000000 by omega), p_held, bd_s, hM_0 hw, eu, hl]
      refine nx _ (Fm_stI (Or.inl (by decide))) ?_
      rw [hM_s0 hw]
      unfold aPl
      rw [if_neg (by rw [hx]; decide), if_pos hx, ew, tn (by omega), eu]
    · have ip := inb_n hp (by decide : 6 < 1000000)
      have tp := tn (show p < 1000000 by omega)
      have x0 : ¬ S (88 + i) = 0 := by rcases hx with e | e <;> rw [e] <;> decide
      have x1 : ¬ S (88 + i) = 1 := by rcases hx with e | e <;> rw [e] <;> decide
      rw [if_neg x0, if_neg x1]
      simp only [r_55_5 h, ep, ck_t, rb_s, inb_n i10 (by decide : 10 < 1000000)]
      have nx4 := nx (stI M 60 p (if S (88 + i) = 2 then 1 else 0)) (Fm_stI (Or.inl (by decide))) (by
        rw [hM_s4 hp]
        unfold aPl
        rw [if_neg x0, if_neg x1, ep, tp])
      by_cases x2 : S (88 + i) = 2
      · rw [if_pos x2] at nx4 ⊢
        unfold gX12_ends_103
        rw [k_60 h, ck_t, g_60 h, ip, ck_t, tp]
        exact nx4
      · rw [if_neg x2] at nx4 ⊢
        unfold gX12_ends_103
        rw [k_60 h, ck_t, g_60 h, ip, ck_t, tp]
        exact nx4
theorem m_ends {M : Mem} {n : Nat} (h : Inv M n) (y : Int32) : Ok1 (fun M => fX11_ends M 0 y) (fun M => fX12_ends M 55 y) M := by
  obtain ⟨s, lw, bd, o⟩ := Op_of h
  have hS := o.1
  have eH := o.2.2.2.2.1
  have hB := o.2.2.2.2.2.1
  obtain ⟨-, ⟨-, -, -, -, hs, hp, hb⟩, -, hl, -⟩ := id h
  obtain ⟨c, c10, ec, es, er, ev⟩ := id hp
  have es' : mI M 55 28 = nI c := es
  rcases rng (L := 2) (K := 1) (n := 2) y rfl rfl (by decide) with ⟨w, hw, ew, h1, h2, h3, h4, h5⟩ | h1 | ⟨h1, h2, h3, h4, h5⟩
  · obtain ⟨N, n1, n2, n3, n4⟩ := p_try2 o
    obtain ⟨m, hm⟩ := FUs c (by omega)
    have rN : ∀ b j, b < 38 → mI N b j = mI M b j := fun b j hb => congrFun (n2.2.2 b (by omega)) j
    obtain ⟨P, p1, p2⟩ := p_endL (s := s) (lw := lw) (bd := bd) (S := sv M) (y := y) c10 ev c m 0 9999 N (by omega) n4 (by omega) (by rw [rN _ _ (by omega)]; exact ec) (fun j hj => by rw [rN _ _ (by omega), rN _ _ (by omega)]; exact er j hj)
    rw [← hm, n3] at p1
    have qc := Qc_t n2 (Qc_Fr p2)
    obtain ⟨o2, eh⟩ := Op_qc o qc
    obtain ⟨A, a1, a2, a3, a4⟩ := Wk_0 o2.1 (Or.inl rfl)
    have rA : ∀ b, ¬ (38 ≤ b ∧ b ≤ 46) → b ≠ 79 → A.2.1 b = M.2.1 b := fun b b1 b2 => (a4 b b2).trans (qc.2.2 b b1)
    have e28 : mI A 55 28 = nI c := (congrFun (rA 55 (by omega) (by omega)) 28).trans es'
    obtain ⟨B, b1, b2, b3⟩ := p_mendL (lw := lw) (bd0 := nI bd) (S := sv M) (y := y) c10 ev c m 0 9999 A (by omega) (Wk_Sh a2 o2.1) (Wk_Mq a2 (Op_Mq o2)) (by rw [a3]; exact o2.2.2.2.2.2.1) (by omega) e28 (fun j hj => by
      rw [sv_73 hj, sv_74 hj]
      exact ⟨congrFun (rA 73 (by omega) (by omega)) j, congrFun (rA 74 (by omega) (by omega)) j⟩)
    have hSA := Wk_Sh a2 o2.1
    have wk := Wk_Fm a2 (Or.inl rfl) b2
    have hSB := Wk_Sh wk o2.1
    have e28B : mI B 55 28 = nI c := (b2.2.2.2 28 (by decide)).trans e28
    rw [← hm, gX12_ends_21_s, k_55 hSB, ck_t, e28B, if_pos (by rw [leL (by omega) (by omega)]; exact Nat.le_refl _)] at b1
    rw [a3, eh] at b3
    obtain ⟨Q, q1, q2, -⟩ := Wk_back o2.1 wk (Or.inl rfl)
    refine Ok_q h (a := aEnd (nI bd) y (aPlanL lw (nI bd) (sv M) c 0 (hM M))) (N := P) ?_ qc ⟨Q, ?_, q2⟩
    · simp only [fX11_ends, h1, if_false, h4, if_true, k_0 hS, r_0_1 hS, r_0_0 hS, k_39 hS, ck_t, rb_s, n1, bd_s]
      exact p1
    · simp only [fX12_ends, wi_1 (L := 2) h1 h5, bd_s, show ¬ (1 : Int32) = 0 by decide, if_false, k_55 o2.1, r_55_38 o2.1, ck_t, rb_s, a1]
      show gX12_ends_21 FU A 55 y (nI 0) = _
      rw [b1]
      unfold aEnd gX12_ends_125
      split
      · simp only [p_mallWear hSB, bd_s, k_55 hSB, r_55_38 hSB, ck_t, rb_s, q1, b3]
      · simp only [p_mbalds hSB (Wk_Mq wk (Op_Mq o2)), bd_s, k_55 hSB, r_55_38 hSB, ck_t, rb_s, q1, b3]
  · refine Ok_m h (a := -1) ?_ ?_
    · simp only [fX11_ends, h1, if_true]
    · simp only [fX12_ends, wi_0 h1, bd_s, if_true]
  · refine Ok_m h (a := -1) ?_ ?_
    · simp only [fX11_ends, h1, h4, if_false]
    · simp only [fX12_ends, wi_2 h5, bd_s, if_true]
