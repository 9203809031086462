/-! ===== the model's gets ===== -/
theorem ne_m5 {i : Nat} (h : i < 1000000) : ¬ nI i = -5 := by
  intro e
  have h1 := congrArg Int32.toInt e
  rw [nI_toInt (by omega)] at h1
  have h2 : (-5 : Int32).toInt = -5 := by decide
  omega
theorem p_mgetsL {p : Nat} {to : Int32} {lw : Law} {bd0 : Int32} (hp : p < 6) : ∀ (n m i b : Nat) (M : Mem), Sh M → Mq M lw bd0 → Hb b (hM M) → b + n ≤ 20000 → i + n = 41 → 1 ≤ i →
    ∃ N, gX12_gets_14 (m + n + 2) M 55 (nI p) to (-5) (nI i) = gX12_gets_55 N 55 (aGets lw bd0 p to n i (aHour lw bd0 (hM M))) ∧ Fm M N := by
  intro n
  induction n with
  | zero =>
    intro m i b M h hq hH hb hi h1
    have : i = 41 := by omega
    subst this
    refine ⟨M, ?_, Fm_r⟩
    rw [show m + 0 + 2 = (m + 1) + 1 by omega, gX12_gets_14_s, if_pos (by decide)]
    rfl
  | succ n ih =>
    intro m i b M h hq hH hb hi h1
    obtain ⟨N, k1, k2, k3⟩ := p_mhour h hq hH.1
    have hSN := Fm_Sh k2 h
    rw [show m + (n + 1) + 2 = (m + n + 2) + 1 by omega, gX12_gets_14_s, if_neg (by rw [show (41 : Int32) = nI 41 from rfl, leL (by omega) (by omega)]; omega), if_pos rfl, if_neg (by rw [show (0 : Int32) = nI 0 from rfl, leL (by omega) (by omega)]; omega), k_55 h, ck_t, k1, bd_s]
    unfold gX12_gets_36
    simp only [k_55 hSN, r_55_4 hSN, k_59 hSN, g_59 hSN, ck_t, rb_s, inb_n hp (by decide : 6 < 1000000), tn (show p < 1000000 by omega), hM_3 hp, k3]
    unfold aGets
    by_cases e : aHour lw bd0 (hM M) 3 p = to
    · rw [if_pos e, if_pos e]
      refine ⟨N, ?_, k2⟩
      unfold gX12_gets_49
      rw [nI_1, show m + n + 2 = (m + n + 1) + 1 by omega, gX12_gets_14_s]
      by_cases hc : (41 : Int32) ≤ nI (i + 1)
      · rw [if_pos hc]
      · rw [if_neg hc, if_neg (ne_m5 (by omega))]
    · rw [if_neg e, if_neg e]
      unfold gX12_gets_49
      rw [nI_1]
      obtain ⟨P, p1, p2⟩ := ih m (i + 1) (b + 1) N hSN (Fm_Mq k2 hq) (by rw [k3]; exact (Hb_hour hH (by omega)).1) (by omega) (by omega) (by omega)
      refine ⟨P, ?_, Fm_t k2 p2⟩
      rw [p1, k3]
theorem p_mgets {M : Mem} {p b : Nat} {to : Int32} {lw : Law} {bd0 : Int32} (h : Sh M) (hq : Mq M lw bd0) (hH : Hb b (hM M)) (hb : b + 41 ≤ 20000) (hp : p < 6) : ∃ P, fX12_gets M 55 (nI p) to = some (aGets lw bd0 p to 41 0 (hM M), P) ∧ Qm M P ∧ ∀ b, 80 ≤ b → P.2.1 b = M.2.1 b := by
  obtain ⟨N, n1, n2, n3, n4⟩ := Wk_0 h (Or.inl rfl)
  have hSN := Wk_Sh n2 h
  have hqN := Wk_Mq n2 hq
  obtain ⟨m, hm⟩ := FUs 41 (by decide)
  have fin : ∀ (P : Mem) (a : Int32), Fm N P → ∃ Q, gX12_gets_55 P 55 a = some (a, Q) ∧ Qm M Q ∧ ∀ b, 80 ≤ b → Q.2.1 b = M.2.1 b := by
    intro P a f
    have w := Wk_Fm n2 (Or.inl rfl) f
    obtain ⟨Q, q1, q2, q3⟩ := Wk_back h w (Or.inl rfl)
    have hSP := Wk_Sh w h
    refine ⟨Q, ?_, q2, fun b hb => (q3 b (by omega)).trans ((f.2.2.1 b (by omega)).trans (n4 b (by omega)))⟩
    simp only [gX12_gets_55, k_55 hSP, r_55_38 hSP, ck_t, rb_s, q1, bd_s]
  unfold fX12_gets
  rw [k_55 h, ck_t, r_55_38 h, rb_s, n1, bd_s, hm, show m + 41 + 1 = (m + 40 + 1) + 1 by omega, gX12_gets_14_s, if_neg (by decide), if_pos rfl, if_pos (by decide)]
  unfold gX12_gets_36
  simp only [k_55 hSN, r_55_4 hSN, k_59 hSN, g_59 hSN, ck_t, rb_s, inb_n hp (by decide : 6 < 1000000), tn (show p < 1000000 by omega), hM_3 hp, n3]
  unfold aGets
  by_cases e : hM M 3 p = to
  · rw [if_pos e, if_pos e]
    unfold gX12_gets_49
    rw [show m + 40 + 1 = (m + 40) + 1 by omega, gX12_gets_14_s, if_neg (by decide), if_neg (by decide)]
    exact fin N 0 Fm_r
  · rw [if_neg e, if_neg e]
    unfold gX12_gets_49
    rw [show (0 + 1 : Int32) = nI 1 from rfl]
    obtain ⟨P, p1, p2⟩ := p_mgetsL (lw := lw) (bd0 := bd0) (to := to) hp 40 (m - 1) 1 b N hSN hqN (by rw [n3]; exact hH) (by omega) rfl (by decide)
    have hm1 : 1 ≤ m := by have := FU_ge; omega
    rw [show m - 1 + 40 + 2 = m + 40 + 1 by omega, n3] at p1
    rw [p1]
    exact fin P _ p2
theorem aGets_in {lw : Law} {bd : Int32} {p : Nat} {to : Int32} : ∀ (n i : Nat) (H : Hall), i + n = 41 → aGets lw bd p to n i H = -5 ∨ ∃ k, k ≤ 40 ∧ aGets lw bd p to n i H = nI k := by
  intro n
  induction n with
  | zero => intro i H _; exact Or.inl rfl
  | succ n ih =>
    intro i H hi
    unfold aGets
    split
    · exact Or.inr ⟨i, by omega, rfl⟩
    · exact ih (i + 1) _ (by omega)
/-! ===== alone ===== -/
def aAlone (p : Nat) : Nat → Nat → Hall → Hall
  | 0, _, H => H
  | n + 1, q, H => aAlone p n (q + 1) (if q = p then H else up2 H 4 q 1)
theorem aAlone_k {p k : Nat} (hk : k ≠ 4) : ∀ (n q : Nat) (H : Hall), aAlone p n q H k = H k := by
  intro n
  induction n with
  | zero => intro q H; rfl
  | succ n ih =>
    intro q H
    show aAlone p n (q + 1) _ k = H k
    rw [ih]
    split
    · rfl
    · funext i
      simp [up2, hk]
theorem Hb_alone {b p : Nat} : ∀ (n q : Nat) (H : Hall), Hb b H → Hb b (aAlone p n q H) := by
  intro n
  induction n with
  | zero => intro q H h; exact h
  | succ n ih =>
    intro q H h
    refine ih (q + 1) _ ?_
    split
    · exact h
    · exact ⟨Hok_away h.1 (Or.inr rfl), h.2⟩
theorem p_aloneL {p : Nat} (hp : p < 6) : ∀ (n m q : Nat) (M : Mem), Sh M → hC M 39 6 1 = nI (q + n) → q + n ≤ 6 → ∃ N, gX11_leaveAloneInTrial_13 (m + n + 1) M 0 (nI p) (nI q) = some ((), N) ∧ Fr M N 39 ∧ hC N 39 = aAlone p n q (hC M 39) := by
  intro n
  induction n with
  | zero =>
    intro m q M h e hn
    refine ⟨M, ?_, Fr_r, rfl⟩
    have e4 : mI M 39 4 = nI q := e
    rw [gX11_leaveAloneInTrial_13_s]
    simp only [k_0 h, r_0_1 h, k_39 h, ck_t, rb_s, e4]
    rw [if_pos (by rw [leL (by omega) (by omega)]; exact Nat.le_refl _)]
  | succ n ih =>
    intro m q M h e hn
    have e4 : mI M 39 4 = nI (q + (n + 1)) := e
    rw [show m + (n + 1) + 1 = (m + n + 1) + 1 by omega, gX11_leaveAloneInTrial_13_s]
    simp only [k_0 h, r_0_1 h, k_39 h, ck_t, rb_s, e4]
    rw [if_neg (by rw [leL (by omega) (by omega)]; omega)]
    unfold aAlone gX11_leaveAloneInTrial_39
    simp only [nI_1]
    by_cases hqp : q = p
    · rw [if_pos (by rw [hqp]), if_pos hqp]
      exact ih m (q + 1) M h (by rw [e]; congr 1; omega) (by omega)
    · rw [if_neg (by rw [eqL (by omega) (by omega)]; exact hqp), if_neg hqp]
      simp only [r_39_8 h, k_44 h, g_44 h, ck_t, rb_s, inb_n (show q < 6 by omega) (by decide), tn (show q < 1000000 by omega)]
      have hput : hC (stI M 44 q 1) 39 = up2 (hC M 39) 4 q 1 := hx_put (b := 40) (c := 39) (k := 4) (by decide) (show q < 6 by omega) (by decide)
      have f : Fr M (stI M 44 q 1) 39 := Fr_stI (by decide)
      obtain ⟨N, n1, n2, n3⟩ := ih m (q + 1) (stI M 44 q 1) (Sh_1 rfl h) (by rw [hput, show q + 1 + n = q + (n + 1) by omega]; exact e) (by omega)
      exact ⟨N, n1, Fr_t f n2, by rw [n3, hput]⟩
theorem p_alone {M : Mem} {s p q : Nat} {lw : Law} {bd : Nat} (o : Op M s lw bd) (hp : p < 6) (hq : q ≤ 6) (eq : mI M 55 1 = nI q) : ∃ N, fX11_leaveAloneInTrial M 0 (nI p) = some ((), N) ∧ Qc M N ∧ hC N 39 = aAlone p q 0 (hM M) ∧ Tr N s lw bd 9999 := by
  have hS := o.1
  obtain ⟨N, n1, n2, n3, n4⟩ := p_try2 o
  obtain ⟨m, hm⟩ := FUs q (by omega)
  obtain ⟨P, p1, p2, p3⟩ := p_aloneL hp q m 0 N n4.1 (by rw [n3, Nat.zero_add]; exact eq) (by omega)
  rw [← hm] at p1
  rw [n3] at p3
  refine ⟨P, ?_, Qc_t n2 (Qc_Fr p2), p3, Tr_Fr n4 p2 (by rw [p3]; exact Hb_alone _ _ _ o.2.2.2.2.2.1)⟩
  simp only [fX11_leaveAloneInTrial, k_0 hS, r_0_1 hS, r_0_0 hS, k_39 hS, ck_t, rb_s, n1, bd_s]
  exact p1
