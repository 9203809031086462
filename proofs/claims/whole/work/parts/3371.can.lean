theorem p_canL {s p c : Nat} {lw : Law} {bd : Nat} {S : Nat → Int32} {H : Hall} {y : Int32} (ok : SOk c S) (hp : p < 6) : ∀ (k m : Nat) (a b : Int32) (M : Mem), k ≤ 10 → Op M s lw bd → hM M = H → CS M c S → ∃ N, gX11_can_29 (m + k + 1) M 0 (nI p) y a b (nI k + (-1)) = some (aCan y (fun v => aSn lw (nI bd) S c 9 0 (up2 H 2 p (nI v))) k a b, N) ∧ Qc M N := by
  intro k
  induction k with
  | zero =>
    intro m a b M hi o eh hc
    refine ⟨M, ?_, Qc_r⟩
    rw [gX11_can_29_s, if_pos (by decide)]
    unfold aCan
    split <;> rfl
  | succ k ih =>
    intro m a b M hi o eh hc
    have hS := o.1
    have hB := o.2.2.2.2.2.1
    obtain ⟨N, n1, hSN, P, p1, p2⟩ := p_tryP (k := 2) (i := p) (x := nI k) o ok hc (by decide) hp ⟨Hok_v hB.1, hB.2⟩
    obtain ⟨o2, eh2⟩ := Op_qc o p2
    have hcP := CS_c (N := P) hc (fun b hb => p2.2.2 b (by omega))
    rw [eh] at p1
    rw [show m + (k + 1) + 1 = (m + k + 1) + 1 by omega, nI_m1, gX11_can_29_s, if_neg (by rw [show (0 : Int32) = nI 0 from rfl, ltL (by omega) (by omega)]; omega)]
    simp only [k_0 hS, r_0_1 hS, r_0_0 hS, k_39 hS, ck_t, rb_s, n1, bd_s, k_0 hSN, r_0_1 hSN, k_39 hSN, r_39_6 hSN, k_42 hSN, g_42 hSN, inb_n hp (by decide : 6 < 1000000), tn (show p < 1000000 by omega)]
    have p1' : fX11_trialGoesAsSeen (stI N 42 p (nI k)) 0 = _ := p1
    rw [p1', bd_s]
    unfold gX11_can_70 aCan
    by_cases g : aSn lw (nI bd) S c 9 0 (up2 H 2 p (nI k)) = true
    · rw [if_pos g, if_neg (by decide), if_pos g]
      obtain ⟨Q, q1, q2⟩ := ih m (a + 1) (nI k) P (by omega) o2 (eh2.trans eh) hcP
      exact ⟨Q, q1, Qc_t p2 q2⟩
    · rw [if_neg g, if_pos rfl, if_neg g]
      obtain ⟨Q, q1, q2⟩ := ih m a b P (by omega) o2 (eh2.trans eh) hcP
      exact ⟨Q, q1, Qc_t p2 q2⟩
theorem p_mcan1 {N P Q : Mem} {p k m : Nat} {y a b : Int32} {r : Bool} (hSN : Sh N) (hSP : Sh P) (hp : p < 6) (hk : k < 10) (p1 : fX12_isSeen (stI N 58 p (nI k)) 55 = some (if r = true then 1 else 0, P)) (q1 : fX12_again P 55 79 = some ((), Q)) : gX12_can_37 (m + 1) N 55 (nI p) y a b (nI k) = if r = true then gX12_can_37 m Q 55 (nI p) y (a + 1) (nI k) (nI k + (-1)) else gX12_can_37 m Q 55 (nI p) y a b (nI k + (-1)) := by
  rw [gX12_can_37_s, if_neg (nI_pos (by omega)), k_55 hSN, ck_t, r_55_3 hSN, rb_s, k_58 hSN, ck_t, g_58 hSN, inb_n hp (by decide : 6 < 1000000), ck_t, tn (show p < 1000000 by omega), p1, bd_s]
  unfold gX12_can_64
  simp only [k_55 hSP, r_55_38 hSP, ck_t, rb_s, q1, bd_s]
  cases r
  · rfl
  · rfl
theorem p_mcanL {M : Mem} {p c : Nat} {lw : Law} {bd0 : Int32} {S : Nat → Int32} {y : Int32} (hS : Sh M) (hq : Mq M lw bd0) (hB : Hb 9999 (hM M)) (ok : SOk c S) (hc : MS M c S) (hp : p < 6) : ∀ (k m : Nat) (a b : Int32) (N : Mem), k ≤ 10 → Wk M N 79 → Qm M N → ∃ P, gX12_can_37 (m + k + 1) N 55 (nI p) y a b (nI k + (-1)) = some (aCan y (fun v => aSn lw bd0 S c 9 0 (up2 (hM M) 2 p (nI v))) k a b, P) ∧ Qm M P := by
  intro k
  induction k with
  | zero =>
    intro m a b N hi w qm
    refine ⟨N, ?_, qm⟩
    rw [gX12_can_37_s, if_pos (by decide)]
    unfold aCan
    split <;> rfl
  | succ k ih =>
    intro m a b N hi w qm
    have hSN := Wk_Sh w hS
    have hB2 : Hb 9999 (up2 (hM M) 2 p (nI k)) := ⟨Hok_v hB.1, hB.2⟩
    obtain ⟨P, p1, hSP, Q, q1, q2, q3⟩ := p_mtryP (k := 2) (i := p) (x := nI k) hS hq ok hc w qm (by decide) hp hB2
    rw [show m + (k + 1) + 1 = (m + k + 1) + 1 by omega, nI_m1, p_mcan1 hSN hSP hp (by omega) p1 q1]
    unfold aCan
    by_cases g : aSn lw bd0 S c 9 0 (up2 (hM M) 2 p (nI k)) = true
    · rw [if_pos g, if_pos g]
      exact ih m (a + 1) (nI k) Q (by omega) q2 q3
    · rw [if_neg g, if_neg g]
      exact ih m a b Q (by omega) q2 q3
theorem m_can {M : Mem} {n : Nat} (h : Inv M n) (x y : Int32) : Ok1 (fun M => fX11_can M 0 x y) (fun M => fX12_can M 55 x y) M := by
  obtain ⟨s, lw, bd, o⟩ := Op_of h
  obtain ⟨q, hq, e1, e2⟩ := Op_n o
  have hS := o.1
  obtain ⟨c, ok, hc, hm⟩ := SOk_of h
  rcases cs_person hq x with ⟨p, hp, hp6, rfl, c1, m1⟩ | ⟨c0, m0⟩
  · rcases rng (L := 2) (K := 1) (n := 2) y rfl rfl (by decide) with ⟨w, hw, ew, h1, h2, h3, h4, h5⟩ | h1 | ⟨h1, h2, h3, h4, h5⟩
    · obtain ⟨m, hmF⟩ := FUs 10 (by decide)
      obtain ⟨N, n1, n2⟩ := p_canL (s := s) (lw := lw) (bd := bd) (y := y) ok hp6 10 m 0 (-5) M (Nat.le_refl _) o rfl hc
      rw [← hmF, show (nI 10 + -1 : Int32) = 9 by decide] at n1
      obtain ⟨o2, eh⟩ := Op_qc o n2
      have hmN : MS N c (sv M) := MS_c hm (congrFun (n2.2.2 55 (by omega)) 24) (fun b hb => n2.2.2 b (by omega))
      obtain ⟨A, a1, a2, a3, a4⟩ := Wk_0 o2.1 (Or.inl rfl)
      have qA : Qm N A := ⟨a2.1, fun j hj => by
        have := src_row j hj
        exact congrFun (a4 _ (by omega)) _⟩
      obtain ⟨P, p1, p2⟩ := p_mcanL (y := y) o2.1 (Op_Mq o2) o2.2.2.2.2.2.1 ok hmN hp6 10 m 0 (-5) A (Nat.le_refl _) a2 qA
      rw [← hmF, show (nI 10 + -1 : Int32) = 9 by decide, eh] at p1
      refine Ok_q h (N := N) ?_ n2 ⟨P, ?_, p2⟩ (a := aCan y (fun v => aSn lw (nI bd) (sv M) c 9 0 (up2 (hM M) 2 p (nI v))) 10 0 (-5))
      · simp only [fX11_can, k_0 hS, ck_t, c1 M hS e1, bd_s, show ¬ (1 : Int32) = 0 by decide, h1, h4, if_false, if_true]
        exact n1
      · have e2' : mI N 55 1 = nI q := by rw [hM_p, eh]; exact e2
        simp only [fX12_can, k_55 o2.1, ck_t, m1 N o2.1 e2', wi_1 (L := 2) h1 h5, bd_s, show ¬ (1 : Int32) = 0 by decide, if_false, r_55_38 o2.1, rb_s, a1]
        exact p1
    · refine Ok_m h (a := -1) ?_ ?_
      · simp only [fX11_can, k_0 hS, ck_t, c1 M hS e1, bd_s, show ¬ (1 : Int32) = 0 by decide, h1, if_true, if_false]
      · simp only [fX12_can, k_55 hS, ck_t, m1 M hS e2, wi_0 h1, bd_s, show ¬ (1 : Int32) = 0 by decide, if_true, if_false]
    · refine Ok_m h (a := -1) ?_ ?_
      · simp only [fX11_can, k_0 hS, ck_t, c1 M hS e1, bd_s, show ¬ (1 : Int32) = 0 by decide, h1, h4, if_false]
      · simp only [fX12_can, k_55 hS, ck_t, m1 M hS e2, wi_2 h5, bd_s, show ¬ (1 : Int32) = 0 by decide, if_true, if_false]
  · refine Ok_m h (a := -1) ?_ ?_
    · simp only [fX11_can, k_0 hS, ck_t, c0 M hS e1, bd_s, if_true]
    · simp only [fX12_can, k_55 hS, ck_t, m0 M hS e2, bd_s, if_true]
