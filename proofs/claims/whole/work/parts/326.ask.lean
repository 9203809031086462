/-! ===== the trial's hall ===== -/
/-- what holds of the trial: the law s, the hall H -/
def Tr (M : Mem) (s : Nat) (lw : Law) (bd : Nat) (b : Nat) : Prop := Sh M ∧ mR M 39 1 = some s ∧ Sq M s lw (nI bd) ∧ Hb b (hC M 39)
theorem Tr_Fr {M N : Mem} {s : Nat} {lw : Law} {bd b b2 : Nat} (h : Tr M s lw bd b) (f : Fr M N 39) (k : Hb b2 (hC N 39)) : Tr N s lw bd b2 := ⟨Sh_1 f.1 h.1, Fr_R f h.2.1, Fr_Sq (by decide) f h.2.2.1, k⟩
theorem p_try2 {M : Mem} {s : Nat} {lw : Law} {bd : Nat} (h : Op M s lw bd) : ∃ N, fX3_take M 39 31 = some ((), N) ∧ Qc M N ∧ hC N 39 = hM M ∧ Tr N s lw bd 9999 := by
  obtain ⟨N, n1, n2, n3, n4, n5⟩ := p_try h
  exact ⟨N, n1, n2, n3, n5.1, n4, Op_Sq n5, by rw [n3]; exact h.2.2.2.2.2.1⟩
theorem t_goHours {M : Mem} {s : Nat} {lw : Law} {bd b n : Nat} (h : Tr M s lw bd b) (hb : b + n ≤ 20000) (hn : n ≤ 1000) : ∃ N, fX3_goHours M 39 (nI n) = some ((), N) ∧ Fr M N 39 ∧ hC N 39 = aHours lw (nI bd) n (hC M 39) ∧ Tr N s lw bd (b + n) := by
  obtain ⟨N, n1, n2, n3⟩ := p_goHours (s := s) (lw := lw) (bd0 := nI bd) (n := n) (b := b) (Or.inr rfl) (Hl_39 h.1) (Kd_s h.1) h.2.1 h.2.2.1 h.2.2.2 hb hn
  exact ⟨N, n1, n2, n3, Tr_Fr h n2 (by rw [n3]; exact (Hb_hours n b _ h.2.2.2 hb).1)⟩
theorem t_goHour {M : Mem} {s : Nat} {lw : Law} {bd b : Nat} (h : Tr M s lw bd b) (hb : b < 20000) : ∃ N, fX3_goHour M 39 = some ((), N) ∧ Fr M N 39 ∧ hC N 39 = aHour lw (nI bd) (hC M 39) ∧ Tr N s lw bd (b + 1) := by
  obtain ⟨N, n1, n2, n3⟩ := p_goHour (s := s) (lw := lw) (bd0 := nI bd) (Or.inr rfl) (Hl_39 h.1) (Kd_s h.1) h.2.1 h.2.2.1 h.2.2.2.1
  exact ⟨N, n1, n2, n3, Tr_Fr h n2 (by rw [n3]; exact (Hb_hour h.2.2.2 hb).1)⟩
theorem cs_span (x : Int32) : (∃ c, c < 41 ∧ x = nI c ∧ (∀ M, fX11_isAskedSpan M x = some (1, M)) ∧ ∀ M, fX12_within M x 0 40 = some (1, M)) ∨ ((∀ M, fX11_isAskedSpan M x = some (0, M)) ∧ ∀ M, fX12_within M x 0 40 = some (0, M)) := by
  rcases rng (L := 41) (K := 40) (n := 41) x rfl rfl (by decide) with ⟨c, hc, e, h1, h2, h3, h4, h5⟩ | h1 | ⟨h1, h2, h3, h4, h5⟩
  · exact Or.inl ⟨c, hc, e, fun M => by unfold fX11_isAskedSpan; rw [if_neg h1, if_neg h5], fun M => wi_1 (L := 10) h1 h5⟩
  · exact Or.inr ⟨fun M => by unfold fX11_isAskedSpan; rw [if_pos h1], fun M => wi_0 h1⟩
  · exact Or.inr ⟨fun M => by unfold fX11_isAskedSpan; rw [if_neg h1, if_pos h5], fun M => wi_2 h5⟩
/-! ===== the model keeps, asks, lays back ===== -/
/-- at work since M: all that was is kept in a -/
def Wk (M N : Mem) (a : Nat) : Prop := Wm M N ∧ (∀ j, j < 130 → mI N a j = sv M j) ∧ mI N 55 15 = mI M 55 15
theorem Wk_0 {M : Mem} {a : Nat} (h : Sh M) (ha : a = 79 ∨ a = 80) : ∃ N, fX12_keep M 55 a = some ((), N) ∧ Wk M N a ∧ hM N = hM M ∧ (∀ b, b ≠ a → N.2.1 b = M.2.1 b) := by
  have hk : KA M a := by
    rcases ha with rfl | rfl
    · exact KA_79 h
    · exact KA_80 h
  obtain ⟨G, g1, g2⟩ := p_keep h hk
  refine ⟨_, g1, ⟨Wm_wF (by omega), fun j hj => ?_, ?_⟩, hM_w (by omega), fun b hb => va_up_ne _ _ hb⟩
  · rw [mI_wF, if_pos rfl]
    exact g2 j hj
  · rw [mI_wF, if_neg (by omega)]
theorem Wk_Fm {M N P : Mem} {a : Nat} (h : Wk M N a) (ha : a = 79 ∨ a = 80) (f : Fm N P) : Wk M P a := ⟨Wm_t h.1 (Wm_Fm f), fun j hj => (congrFun (f.2.2.1 a (by omega)) j).trans (h.2.1 j hj), (f.2.2.2 15 (by decide)).trans h.2.2⟩
theorem Wk_st {M N : Mem} {a b i : Nat} {x : Int32} (h : Wk M N a) (ha : a = 79 ∨ a = 80) (hb : 56 ≤ b ∧ b < 62) : Wk M (stI N b i x) a := Wk_Fm h ha (Fm_stI (Or.inl hb))
theorem Wk_Sh {M N : Mem} {a : Nat} (h : Wk M N a) (k : Sh M) : Sh N := Sh_1 h.1.1 k
theorem Wk_Mq {M N : Mem} {a : Nat} {lw : Law} {bd : Int32} (h : Wk M N a) (k : Mq M lw bd) : Mq N lw bd := Sm_Mq ⟨h.1.1, h.2.2, fun b hb => h.1.2.2.1 b (by omega)⟩ k
theorem Wk_back {M N : Mem} {a : Nat} (h : Sh M) (w : Wk M N a) (ha : a = 79 ∨ a = 80) : ∃ P, fX12_again N 55 a = some ((), P) ∧ Qm M P ∧ ∀ b, 79 ≤ b → P.2.1 b = N.2.1 b := by
  have hk : KA M a := by
    rcases ha with rfl | rfl
    · exact KA_79 h
    · exact KA_80 h
  exact p_back h w.1 ha hk w.2.1
/-! ===== on ===== -/
theorem p_monL {lw : Law} {bd0 : Int32} {l2 : Int32} : ∀ (n m i b : Nat) (M : Mem), Sh M → Mq M lw bd0 → Hb b (hM M) → b + n ≤ 20000 → i + n ≤ 1000 →
    ∃ N, gX12_on_50 (m + n + 1) M 55 (nI (i + n)) l2 (nI i) = gX12_on_50 (m + 1) N 55 (nI (i + n)) l2 (nI (i + n)) ∧ Fm M N ∧ hM N = aHours lw bd0 n (hM M) := by
  intro n
  induction n with
  | zero =>
    intro m i b M h hq hH hb hi
    exact ⟨M, rfl, Fm_r, rfl⟩
  | succ n ih =>
    intro m i b M h hq hH hb hi
    obtain ⟨N, k1, k2, k3⟩ := p_mhour h hq hH.1
    obtain ⟨P, p1, p2, p3⟩ := ih m (i + 1) (b + 1) N (Fm_Sh k2 h) (Fm_Mq k2 hq) (by rw [k3]; exact (Hb_hour hH (by omega)).1) (by omega) (by omega)
    refine ⟨P, ?_, Fm_t k2 p2, ?_⟩
    · rw [show m + (n + 1) + 1 = (m + n + 1) + 1 by omega, gX12_on_50_s, if_neg (by rw [leL (by omega) (by omega)]; omega), k_55 h, ck_t, k1, bd_s, nI_1, show i + (n + 1) = i + 1 + n by omega]
      exact p1
    · rw [p3, k3]
      rfl
/-- what on() answers -/
def aOn (bd : Int32) (H : Hall) (t : Nat) (k : Nat) : Int32 := if t = 0 then aBald bd H 25 0 0 else if t = 1 then H 0 k else H 3 k
theorem p_mon {M : Mem} {s : Nat} {lw : Law} {bd k t i : Nat} {y : Int32} (o : Op M s lw bd) (hk : k < 41) (hy : (t = 0 ∧ y = 0) ∨ (t = 1 ∧ i < 25 ∧ y - 10 = nI i ∧ ¬ y = 0 ∧ ¬ 40 ≤ y) ∨ (t = 2 ∧ i < 6 ∧ y - 40 = nI i ∧ ¬ y = 0 ∧ 40 ≤ y)) :
    ∃ P, gX12_on_27 M 55 (nI k) y = some (aOn (nI bd) (aHours lw (nI bd) k (hM M)) t i, P) ∧ Qm M P := by
  have hS := o.1
  have hB := o.2.2.2.2.2.1
  obtain ⟨N, n1, n2, n3, -⟩ := Wk_0 hS (Or.inl rfl)
  obtain ⟨m, hm⟩ := FUs k (by omega)
  obtain ⟨P, p1, p2, p3⟩ := p_monL (lw := lw) (bd0 := nI bd) (l2 := y) k m 0 9999 N (Wk_Sh n2 hS) (Wk_Mq n2 (Op_Mq o)) (by rw [n3]; exact hB) (by omega) (by omega)
  rw [← hm, Nat.zero_add, gX12_on_50_s, if_pos (by rw [leL (by omega) (by omega)]; exact Nat.le_refl _)] at p1
  rw [n3] at p3
  have w := Wk_Fm n2 (Or.inl rfl) p2
  have hSP := Wk_Sh w hS
  obtain ⟨Q, q1, q2, -⟩ := Wk_back hS w (Or.inl rfl)
  refine ⟨Q, ?_, q2⟩
  have wi : fX12_within M (nI k) 0 40 = some (1, M) := wi_1 (L := 41) (by rw [show (0 : Int32) = nI 0 from rfl, ltL (by omega) (by omega)]; omega) (by rw [show (40 : Int32) = nI 40 from rfl, ltL (by omega) (by omega)]; omega)
  unfold gX12_on_27
  rw [wi, bd_s, if_neg (by decide), k_55 hS, ck_t, r_55_38 hS, rb_s, n1, bd_s]
  show gX12_on_50 FU N 55 (nI k) y (nI 0) = _
  rw [p1]
  unfold aOn
  rcases hy with ⟨rfl, rfl⟩ | ⟨rfl, hi, ei, y0, y4⟩ | ⟨rfl, hi, ei, y0, y4⟩
  · simp only [if_true, k_55 hSP, ck_t, p_mbalds hSP (Wk_Mq w (Op_Mq o)), bd_s, gX12_on_103, r_55_38 hSP, rb_s, q1, p3]
  · simp only [y0, y4, if_false, if_true, k_55 hSP, r_55_0 hSP, k_56 hSP, g_56 hSP, ck_t, rb_s, ei, inb_n hi (by decide : 25 < 1000000), tn (show i < 1000000 by omega), gX12_on_103, r_55_38 hSP, q1, bd_s, hM_0 hi, p3, show ¬ 1 = 0 by decide]
  · simp only [y0, y4, if_false, if_true, k_55 hSP, r_55_4 hSP, k_59 hSP, g_59 hSP, ck_t, rb_s, ei, inb_n hi (by decide : 6 < 1000000), tn (show i < 1000000 by omega), gX12_on_103, r_55_38 hSP, q1, bd_s, hM_3 hi, p3, show ¬ 2 = 0 by decide, show ¬ 2 = 1 by decide]
theorem p_con {M : Mem} {s : Nat} {lw : Law} {bd k t i q : Nat} {y z : Int32} (o : Op M s lw bd) (hk : k < 41) (hq : q ≤ 6) (e1 : mI M 31 4 = nI q) (hy : (t = 1 ∧ i < 25 ∧ y = nI i) ∨ ((∀ M, fX11_isCell M y = some (0, M)) ∧ ((t = 2 ∧ i < 6 ∧ z = nI i ∧ ∀ N, Sh N → mI N 31 4 = nI q → fX11_isPerson N 0 z = some (1, N)) ∨ (t = 0 ∧ ∀ N, Sh N → mI N 31 4 = nI q → fX11_isPerson N 0 z = some (0, N))))) :
    ∃ P, gX11_on_33 M 0 (nI k) y z = some (aOn (nI bd) (aHours lw (nI bd) k (hM M)) t i, P) ∧ Qc M P := by
  have hS := o.1
  obtain ⟨N, n1, n2, n3, n4⟩ := p_try2 o
  obtain ⟨P, p1, p2, p3, p4⟩ := t_goHours (n := k) n4 (by omega) (by omega)
  have hSN := n4.1
  have hSP := p4.1
  rw [n3] at p3
  refine ⟨P, ?_, Qc_t n2 (Qc_Fr p2)⟩
  have wi : fX11_isAskedSpan M (nI k) = some (1, M) := by
    unfold fX11_isAskedSpan
    rw [if_neg (by rw [show (0 : Int32) = nI 0 from rfl, ltL (by omega) (by omega)]; omega), if_neg (by rw [show (40 : Int32) = nI 40 from rfl, ltL (by omega) (by omega)]; omega)]
  have e1P : mI P 31 4 = nI q := by
    rw [← e1]
    exact congrFun ((Qc_t n2 (Qc_Fr p2)).2.2 31 (by omega)) 4
  unfold gX11_on_33 aOn
  simp only [wi, bd_s, show ¬ (1 : Int32) = 0 by decide, if_false, k_0 hS, r_0_1 hS, r_0_0 hS, k_39 hS, ck_t, rb_s, n1, k_0 hSN, r_0_1 hSN, k_39 hSN, p1]
  rcases hy with ⟨rfl, hi, rfl⟩ | ⟨hc, ⟨rfl, hi, rfl, hp⟩ | ⟨rfl, hp⟩⟩
  · have e : mI P 40 i = hC P 39 0 i := (hx_arr (b := 40) (k := 0) (by decide) hi).symm
    rcases cs_cell (nI i) with ⟨c, hc, ec, d1, d2⟩ | ⟨d1, d2⟩
    · simp only [d1, bd_s, show ¬ (1 : Int32) = 0 by decide, if_false, k_0 hSP, r_0_1 hSP, k_39 hSP, r_39_3 hSP, k_40 hSP, g_40 hSP, ck_t, rb_s, inb_n hi (by decide : 25 < 1000000), tn (show i < 1000000 by omega), e, p3, show ¬ 1 = 0 by decide, if_true]
    · exfalso
      have := d1 P
      unfold fX11_isCell at this
      rw [if_neg (by rw [show (0 : Int32) = nI 0 from rfl, ltL (by omega) (by omega)]; omega), if_neg (ge25 hi)] at this
      have := (sp_inv this).1
      exact absurd this (by decide)
  · have e : mI P 43 i = hC P 39 3 i := (hx_arr (b := 40) (k := 3) (by decide) hi).symm
    simp only [hc, bd_s, if_true, k_0 hSP, hp P hSP e1P, show ¬ (1 : Int32) = 0 by decide, if_false, r_0_1 hSP, k_39 hSP, r_39_7 hSP, k_43 hSP, g_43 hSP, ck_t, rb_s, inb_n hi (by decide : 6 < 1000000), tn (show i < 1000000 by omega), e, p3, show ¬ 2 = 0 by decide, show ¬ 2 = 1 by decide]
  · simp only [hc, bd_s, if_true, k_0 hSP, hp P hSP e1P, r_0_1 hSP, k_39 hSP, ck_t, rb_s, p_countBald (Hl_39 hSP) p4.2.1 p4.2.2.1, p3]
theorem sub_nI {y : Int32} {k i : Nat} (h : y - nI k = nI i) : y = nI (i + k) := by
  rw [← nI_add, ← h]
  exact (Int32.sub_add_cancel y (nI k)).symm
theorem m_on {M : Mem} {n : Nat} (h : Inv M n) (x y : Int32) : Ok1 (fun M => fX11_on M 0 x y) (fun M => fX12_on M 55 x y) M := by
  obtain ⟨s, lw, bd, o⟩ := Op_of h
  obtain ⟨q, hq, e1, e2⟩ := Op_n o
  have hS := o.1
  have go : ∀ t i, (∀ k, k < 41 → x = nI k → ∃ P, gX11_on_33 M 0 x (y - 10) (y - 40) = some (aOn (nI bd) (aHours lw (nI bd) k (hM M)) t i, P) ∧ Qc M P) → ((t = 0 ∧ y = 0) ∨ (t = 1 ∧ i < 25 ∧ y - 10 = nI i ∧ ¬ y = 0 ∧ ¬ 40 ≤ y) ∨ (t = 2 ∧ i < 6 ∧ y - 40 = nI i ∧ ¬ y = 0 ∧ 40 ≤ y)) → (∀ N, Sh N → mI N 55 1 = nI q → fX12_on N 55 x y = gX12_on_27 N 55 x y) → fX11_on M 0 x y = gX11_on_33 M 0 x (y - 10) (y - 40) → Ok1 (fun M => fX11_on M 0 x y) (fun M => fX12_on M 55 x y) M := by
    intro t i hc hy hm hcc
    rcases cs_span x with ⟨k, hk, rfl, d1, d2⟩ | ⟨d1, d2⟩
    · obtain ⟨N, n1, n2⟩ := hc k hk rfl
      obtain ⟨o2, eh⟩ := Op_qc o n2
      obtain ⟨P, p1, p2⟩ := p_mon o2 hk hy
      have e2N : mI N 55 1 = nI q := by
        show hM N 6 1 = _
        rw [eh]
        exact e2
      refine Ok_q h (a := aOn (nI bd) (aHours lw (nI bd) k (hM M)) t i) (N := N) (hcc.trans n1) n2 ⟨P, ?_, p2⟩
      show fX12_on N 55 (nI k) y = _
      rw [hm N o2.1 e2N, p1, eh]
    · refine Ok_m h (a := -2) ?_ ?_
      · show fX11_on M 0 x y = _
        rw [hcc]
        unfold gX11_on_33
        rw [d1, bd_s, if_pos rfl]
      · show fX12_on M 55 x y = _
        rw [hm M hS e2]
        unfold gX12_on_27
        rw [d2, bd_s, if_pos rfl]
  by_cases y0 : y = 0
  · subst y0
    refine go 0 0 (fun k hk hx => ?_) (Or.inl ⟨rfl, rfl⟩) (fun N hN e => by unfold fX12_on; rw [if_pos rfl]) (by unfold fX11_on; rw [if_pos rfl])
    rw [hx]
    refine p_con o hk hq e1 (Or.inr ⟨fun M => ?_, Or.inr ⟨rfl, fun N hN e => ?_⟩⟩)
    · unfold fX11_isCell
      rw [if_pos (by decide)]
    · unfold fX11_isPerson
      rw [if_pos (by decide)]
  · rcases cs_cell (y - 10) with ⟨c, hc, ec, d1, d2⟩ | ⟨d1, d2⟩
    · have ey := sub_nI (k := 10) ec
      refine go 1 c (fun k hk hx => ?_) (Or.inr (Or.inl ⟨rfl, hc, ec, y0, ?_⟩)) (fun N hN e => by unfold fX12_on; rw [if_neg y0, d2, bd_s, if_neg (by decide)]) (by unfold fX11_on; rw [if_neg y0, d1, bd_s, if_neg (by decide)])
      · rw [hx]
        exact p_con o hk hq e1 (Or.inl ⟨rfl, hc, ec⟩)
      · rw [ey, show (40 : Int32) = nI 40 from rfl, leL (by omega) (by omega)]
        omega
    · rcases cs_person hq (y - 40) with ⟨p, hp, hp6, ep, c1, m1⟩ | ⟨c0, m0⟩
      · have ey := sub_nI (k := 40) ep
        refine go 2 p (fun k hk hx => ?_) (Or.inr (Or.inr ⟨rfl, hp6, ep, y0, ?_⟩)) (fun N hN e => by unfold fX12_on; rw [if_neg y0, d2, bd_s, if_pos rfl, k_55 hN, ck_t, m1 N hN e, bd_s, if_neg (by decide)]) (by unfold fX11_on; rw [if_neg y0, d1, bd_s, if_pos rfl, k_0 hS, ck_t, c1 M hS e1, bd_s, if_neg (by decide)])
        · rw [hx]
          exact p_con o hk hq e1 (Or.inr ⟨d1, Or.inl ⟨rfl, hp6, ep, c1⟩⟩)
        · rw [ey, show (40 : Int32) = nI 40 from rfl, leL (by omega) (by omega)]
          omega
      · refine Ok_m h (a := -1) ?_ ?_
        · show fX11_on M 0 x y = _
          unfold fX11_on
          rw [if_neg y0, d1, bd_s, if_pos rfl, k_0 hS, ck_t, c0 M hS e1, bd_s, if_pos rfl]
        · show fX12_on M 55 x y = _
          unfold fX12_on
          rw [if_neg y0, d2, bd_s, if_pos rfl, k_55 hS, ck_t, m0 M hS e2, bd_s, if_pos rfl]
