/-! ===== what is seen ===== -/
def aAt (H : Hall) (S : Nat → Int32) (t : Int32) : Nat → Nat → Bool
  | 0, _ => true
  | n + 1, i => if S (78 + i) = t then (if H 3 (S (73 + i)).toNatClampNeg = S (83 + i) then aAt H S t n (i + 1) else false) else aAt H S t n (i + 1)
def aSn (lw : Law) (bd : Int32) (S : Nat → Int32) (c : Nat) : Nat → Nat → Hall → Bool
  | 0, _, _ => true
  | k + 1, t, H => if aAt H S (nI t) c 0 = true then aSn lw bd S c k (t + 1) (aHour lw bd H) else false
theorem aAt_none {H : Hall} {S : Nat → Int32} {t : Int32} : ∀ (n i : Nat), (∀ j, i ≤ j → j < i + n → ¬ S (78 + j) = t) → aAt H S t n i = true := by
  intro n
  induction n with
  | zero => intro i _; rfl
  | succ n ih =>
    intro i hi
    unfold aAt
    rw [if_neg (hi i (Nat.le_refl _) (by omega))]
    exact ih (i + 1) (fun j h1 h2 => hi j (by omega) (by omega))
theorem aSn_none {lw : Law} {bd : Int32} {S : Nat → Int32} {c : Nat} : ∀ (k t : Nat) (H : Hall), (∀ j, j < c → ∀ u, t ≤ u → u < t + k → ¬ S (78 + j) = nI u) → aSn lw bd S c k t H = true := by
  intro k
  induction k with
  | zero => intro t H _; rfl
  | succ k ih =>
    intro t H h
    unfold aSn
    rw [if_pos (aAt_none c 0 (fun j _ hj => h j (by omega) t (Nat.le_refl _) (by omega)))]
    exact ih (t + 1) _ (fun j hj u u1 u2 => h j hj u (by omega) (by omega))
theorem aSn_more {lw : Law} {bd : Int32} {S : Nat → Int32} {c j : Nat} : ∀ (k t : Nat) (H : Hall), (∀ i, i < c → ∀ u, t + k ≤ u → u < t + k + j → ¬ S (78 + i) = nI u) → aSn lw bd S c (k + j) t H = aSn lw bd S c k t H := by
  intro k
  induction k with
  | zero =>
    intro t H h
    rw [Nat.zero_add]
    exact aSn_none j t H (fun i hi u u1 u2 => h i hi u (by omega) (by omega))
  | succ k ih =>
    intro t H h
    rw [show k + 1 + j = (k + j) + 1 by omega]
    unfold aSn
    split
    · exact ih (t + 1) _ (fun i hi u u1 u2 => h i hi u (by omega) (by omega))
    · rfl
/-- the class's rows of what is seen -/
def CS (M : Mem) (c : Nat) (S : Nat → Int32) : Prop := mI M 1 2 = nI c ∧ ∀ i, i < 5 → mI M 2 (i * 3) = S (73 + i) ∧ mI M 2 (i * 3 + 1) = S (78 + i) ∧ mI M 2 (i * 3 + 2) = S (83 + i)
def MS (M : Mem) (c : Nat) (S : Nat → Int32) : Prop := mI M 55 24 = nI c ∧ ∀ i, i < 5 → mI M 70 i = S (73 + i) ∧ mI M 71 i = S (78 + i) ∧ mI M 72 i = S (83 + i)
def SOk (c : Nat) (S : Nat → Int32) : Prop := c ≤ 5 ∧ ∀ i, i < c → (∃ p, p < 6 ∧ S (73 + i) = nI p) ∧ ∃ h, h ≤ 8 ∧ S (78 + i) = nI h
theorem CS_c {M N : Mem} {c : Nat} {S : Nat → Int32} (h : CS M c S) (r : ∀ b, b = 1 ∨ b = 2 → N.2.1 b = M.2.1 b) : CS N c S := by
  obtain ⟨h1, h2⟩ := h
  unfold CS mI at *
  rw [r 1 (Or.inl rfl), r 2 (Or.inr rfl)]
  exact ⟨h1, h2⟩
theorem MS_c {M N : Mem} {c : Nat} {S : Nat → Int32} (h : MS M c S) (e : mI N 55 24 = mI M 55 24) (r : ∀ b, 70 ≤ b ∧ b ≤ 72 → N.2.1 b = M.2.1 b) : MS N c S := by
  obtain ⟨h1, h2⟩ := h
  refine ⟨e.trans h1, ?_⟩
  unfold mI at *
  rw [r 70 (by omega), r 71 (by omega), r 72 (by omega)]
  exact h2
theorem MS_Fm {M N : Mem} {c : Nat} {S : Nat → Int32} (h : MS M c S) (f : Fm M N) : MS N c S := MS_c h (f.2.2.2 24 (by decide)) (fun b hb => f.2.2.1 b (by omega))
theorem p_atL {M : Mem} {c : Nat} {S : Nat → Int32} (hS : Sh M) (hc : CS M c S) (ok : SOk c S) {t : Int32} : ∀ (k m i : Nat), i + k = c → gX11_trialIsAsSeen_2 (m + k + 1) M 0 t (nI i) = some (if aAt (hC M 39) S t k i = true then 1 else 0, M) := by
  have c5 := ok.1
  intro k
  induction k with
  | zero =>
    intro m i hi
    rw [gX11_trialIsAsSeen_2_s]
    simp only [k_0 hS, r_0_2 hS, k_1 hS, ck_t, rb_s, hc.1]
    rw [if_pos (by rw [leL (by omega) (by omega)]; omega)]
    rfl
  | succ k ih =>
    intro m i hi
    obtain ⟨⟨p, hp6, ep⟩, -⟩ := ok.2 i (by omega)
    have i5 : i < 5 := by omega
    obtain ⟨v0, v1, v2⟩ := hc.2 i i5
    have q0 : fX5_part M 1 (nI i) 0 = some (mI M (1 + 1) (i * 3), M) := p_part5 (M := M) (a := 1) (i := i) (j := 0) (y := 0) (k_1 hS) (r_1_1 hS) (k_2 hS) (L := 5) (g_2 hS) i5 (by decide) (by decide) rfl
    have q1 := p_part5 (M := M) (a := 1) (i := i) (j := 1) (y := 1) (k_1 hS) (r_1_1 hS) (k_2 hS) (L := 5) (g_2 hS) i5 (by decide) (by decide) rfl
    have q2 := p_part5 (M := M) (a := 1) (i := i) (j := 2) (y := 2) (k_1 hS) (r_1_1 hS) (k_2 hS) (L := 5) (g_2 hS) i5 (by decide) (by decide) rfl
    rw [v0, ep] at q0
    rw [v1] at q1
    rw [v2] at q2
    have e3 : mI M 43 p = hC M 39 3 p := (hx_arr (b := 40) (k := 3) (by decide) hp6).symm
    rw [show m + (k + 1) + 1 = (m + k + 1) + 1 by omega, gX11_trialIsAsSeen_2_s]
    simp only [k_0 hS, r_0_2 hS, k_1 hS, ck_t, rb_s, hc.1]
    rw [if_neg (by rw [leL (by omega) (by omega)]; omega), q1, bd_s]
    unfold aAt gX11_trialIsAsSeen_57
    simp only [nI_1]
    by_cases g : S (78 + i) = t
    · rw [if_pos g, if_pos g]
      simp only [k_0 hS, r_0_1 hS, k_39 hS, r_39_7 hS, r_0_2 hS, k_1 hS, q0, bd_s, k_43 hS, g_43 hS, inb_n hp6 (by decide : 6 < 1000000), tn (show p < 1000000 by omega), q2, ck_t, rb_s, e3, ep]
      by_cases g2 : hC M 39 3 p = S (83 + i)
      · rw [if_pos g2, if_pos g2]
        exact ih m (i + 1) (by omega)
      · rw [if_neg g2, if_neg g2]
        rfl
    · rw [if_neg g, if_neg g]
      exact ih m (i + 1) (by omega)
theorem p_at {M : Mem} {c : Nat} {S : Nat → Int32} (hS : Sh M) (hc : CS M c S) (ok : SOk c S) {t : Int32} : fX11_trialIsAsSeen M 0 t = some (if aAt (hC M 39) S t c 0 = true then 1 else 0, M) := by
  have := ok.1
  obtain ⟨m, hm⟩ := FUs c (by omega)
  have := p_atL hS hc ok (t := t) c m 0 (by omega)
  rw [← hm] at this
  exact this
theorem p_goesL {s c l : Nat} {lw : Law} {bd : Nat} {S : Nat → Int32} (ok : SOk c S) (hl : l ≤ 8) : ∀ (k m t b : Nat) (M : Mem), 1 ≤ t → t + k = l + 1 → Tr M s lw bd b → b + k ≤ 20000 → CS M c S → ∃ N, gX11_trialGoesAsSeen_37 (m + k + 1) M 0 (nI l) (nI t) = some (if aSn lw (nI bd) S c k t (aHour lw (nI bd) (hC M 39)) = true then 1 else 0, N) ∧ Fr M N 39 := by
  intro k
  induction k with
  | zero =>
    intro m t b M h1 ht tr hb hc
    refine ⟨M, ?_, Fr_r⟩
    rw [gX11_trialGoesAsSeen_37_s, if_pos (by rw [ltL (by omega) (by omega)]; omega)]
    rfl
  | succ k ih =>
    intro m t b M h1 ht tr hb hc
    have hS := tr.1
    obtain ⟨N, n1, n2, n3, n4⟩ := t_goHour tr (by omega)
    have hSN := n4.1
    have hcN := CS_c (N := N) hc (fun b hb => n2.2.2 b (by omega))
    rw [show m + (k + 1) + 1 = (m + k + 1) + 1 by omega, gX11_trialGoesAsSeen_37_s, if_neg (by rw [ltL (by omega) (by omega)]; omega), if_neg (by rw [show (0 : Int32) = nI 0 from rfl, leL (by omega) (by omega)]; omega)]
    simp only [k_0 hS, r_0_1 hS, k_39 hS, ck_t, rb_s, n1, bd_s]
    unfold gX11_trialGoesAsSeen_53 aSn
    rw [k_0 hSN, ck_t, p_at hSN hcN ok, bd_s, nI_1, n3]
    by_cases g : aAt (aHour lw (nI bd) (hC M 39)) S (nI t) c 0 = true
    · simp only [g, if_true, show ¬ (1 : Int32) = 0 by decide, if_false]
      obtain ⟨P, p1, p2⟩ := ih m (t + 1) (b + 1) N (by omega) (by omega) n4 (by omega) hcN
      rw [n3] at p1
      exact ⟨P, p1, Fr_t n2 p2⟩
    · simp only [g, if_false, if_true]
      exact ⟨N, rfl, n2⟩
theorem p_lastL {M : Mem} {c : Nat} {S : Nat → Int32} (hS : Sh M) (hc : CS M c S) (ok : SOk c S) : ∀ (k m i l : Nat), i + k = c → l ≤ 8 → ∃ l2, l2 ≤ 8 ∧ l ≤ l2 ∧ (∀ j, i ≤ j → j < c → ∀ u, l2 < u → u < 100 → ¬ S (78 + j) = nI u) ∧ gX11_trialGoesAsSeen_4 (m + k + 1) M 0 (nI l) (nI i) = gX11_trialGoesAsSeen_37 FU M 0 (nI l2) 0 := by
  have c5 := ok.1
  intro k
  induction k with
  | zero =>
    intro m i l hi hl
    refine ⟨l, hl, Nat.le_refl _, fun j h1 h2 => by omega, ?_⟩
    rw [gX11_trialGoesAsSeen_4_s]
    simp only [k_0 hS, r_0_2 hS, k_1 hS, ck_t, rb_s, hc.1]
    rw [if_pos (by rw [leL (by omega) (by omega)]; omega)]
  | succ k ih =>
    intro m i l hi hl
    obtain ⟨-, w, hw, ew⟩ := ok.2 i (by omega)
    have i5 : i < 5 := by omega
    obtain ⟨v0, v1, v2⟩ := hc.2 i i5
    have q1 := p_part5 (M := M) (a := 1) (i := i) (j := 1) (y := 1) (k_1 hS) (r_1_1 hS) (k_2 hS) (L := 5) (g_2 hS) i5 (by decide) (by decide) rfl
    rw [v1, ew] at q1
    obtain ⟨l2, a1, a2, a3, a4⟩ := ih m (i + 1) (max l w) (by omega) (by omega)
    refine ⟨l2, a1, by omega, fun j h1 h2 u u1 u2 => ?_, ?_⟩
    · by_cases hj : j = i
      · rw [hj, ew, eqL (by omega) (by omega)]
        omega
      · exact a3 j (by omega) h2 u u1 u2
    · rw [show m + (k + 1) + 1 = (m + k + 1) + 1 by omega, gX11_trialGoesAsSeen_4_s]
      simp only [k_0 hS, r_0_2 hS, k_1 hS, ck_t, rb_s, hc.1]
      rw [if_neg (by rw [leL (by omega) (by omega)]; omega), q1, bd_s, nI_1]
      have : (if nI l < nI w then nI w else nI l) = nI (max l w) := by
        by_cases hh : l < w
        · rw [if_pos (by rw [ltL (by omega) (by omega)]; exact hh), Nat.max_eq_right (by omega)]
        · rw [if_neg (by rw [ltL (by omega) (by omega)]; exact hh), Nat.max_eq_left (by omega)]
      rw [this]
      exact a4
theorem p_goes {M : Mem} {s c : Nat} {lw : Law} {bd b : Nat} {S : Nat → Int32} (ok : SOk c S) (tr : Tr M s lw bd b) (hb : b + 20 ≤ 20000) (hc : CS M c S) : ∃ N, fX11_trialGoesAsSeen M 0 = some (if aSn lw (nI bd) S c 9 0 (hC M 39) = true then 1 else 0, N) ∧ Fr M N 39 := by
  have hS := tr.1
  have c5 := ok.1
  obtain ⟨m, hm⟩ := FUs c (by omega)
  obtain ⟨l, l8, -, hn, e⟩ := p_lastL hS hc ok c m 0 0 (by omega) (by omega)
  rw [← hm] at e
  have e' : fX11_trialGoesAsSeen M 0 = gX11_trialGoesAsSeen_37 FU M 0 (nI l) 0 := e
  rw [e', show (9 : Nat) = (l + 1) + (8 - l) by omega, aSn_more (l + 1) 0 _ (fun i hi u u1 u2 => hn i (by omega) hi u (by omega) (by omega))]
  obtain ⟨m2, hm2⟩ := FUs (l + 1) (by omega)
  rw [hm2, gX11_trialGoesAsSeen_37_s, if_neg (by rw [show (0 : Int32) = nI 0 from rfl, ltL (by omega) (by omega)]; omega), if_pos (by decide)]
  unfold gX11_trialGoesAsSeen_53 aSn
  rw [k_0 hS, ck_t, p_at hS hc ok, bd_s, show (0 + 1 : Int32) = nI 1 from rfl, show (0 : Int32) = nI 0 from rfl]
  by_cases g : aAt (hC M 39) S (nI 0) c 0 = true
  · simp only [g, if_true]
    rw [if_neg (by decide)]
    obtain ⟨P, p1, p2⟩ := p_goesL (s := s) (lw := lw) (bd := bd) ok l8 l m2 1 b M (Nat.le_refl _) (by omega) tr (by omega) hc
    exact ⟨P, p1, p2⟩
  · refine ⟨M, ?_, Fr_r⟩
    simp [g]
/-! ===== model ===== -/
theorem p_msnI {M : Mem} {c : Nat} {S : Nat → Int32} {t : Int32} {K : Mem → Nat → Int32 → Int32 → Option (Int32 × Mem)} (hS : Sh M) (hc : MS M c S) (ok : SOk c S) : ∀ (k m i : Nat) (l : Int32), i + k = c → gX12_isSeen_20 K (m + k + 1) M 55 l t (nI i) = K M 55 (if aAt (hM M) S t k i = true then l else 0) (t + 1) := by
  have c5 := ok.1
  intro k
  induction k with
  | zero =>
    intro m i l hi
    rw [gX12_isSeen_20_s, k_55 hS, ck_t, hc.1, if_pos (by rw [leL (by omega) (by omega)]; omega)]
    rfl
  | succ k ih =>
    intro m i l hi
    obtain ⟨⟨p, hp6, ep⟩, -⟩ := ok.2 i (by omega)
    have i5 : i < 5 := by omega
    obtain ⟨v0, v1, v2⟩ := hc.2 i i5
    rw [show m + (k + 1) + 1 = (m + k + 1) + 1 by omega, gX12_isSeen_20_s, k_55 hS, ck_t, hc.1, if_neg (by rw [leL (by omega) (by omega)]; omega)]
    simp only [r_55_26 hS, k_71 hS, g_71 hS, ck_t, rb_s, inb_n i5 (by decide : 5 < 1000000), tn (show i < 1000000 by omega), v1]
    unfold aAt gX12_isSeen_60
    simp only [nI_1]
    by_cases g : S (78 + i) = t
    · rw [if_pos g, if_pos g]
      simp only [r_55_4 hS, r_55_25 hS, r_55_27 hS, k_70 hS, g_70 hS, k_72 hS, g_72 hS, k_59 hS, g_59 hS, ck_t, rb_s, inb_n i5 (by decide : 5 < 1000000), v0, v2, ep, inb_n hp6 (by decide : 6 < 1000000), tn (show p < 1000000 by omega), hM_3 hp6]
      by_cases g2 : hM M 3 p = S (83 + i)
      · rw [if_pos g2, if_pos g2]
        exact ih m (i + 1) l (by omega)
      · rw [if_neg g2, if_neg g2, ih m (i + 1) 0 (by omega)]
        simp
    · rw [if_neg g, if_neg g]
      exact ih m (i + 1) l (by omega)
theorem p_msn1 {M : Mem} {c : Nat} {S : Nat → Int32} {t l : Int32} {K : Mem → Nat → Int32 → Int32 → Option (Int32 × Mem)} (hS : Sh M) (hc : MS M c S) (ok : SOk c S) : gX12_isSeen_18 K M 55 l t = K M 55 (if aAt (hM M) S t c 0 = true then l else 0) (t + 1) := by
  have := ok.1
  obtain ⟨m, hm⟩ := FUs c (by omega)
  have := p_msnI (K := K) (t := t) hS hc ok c m 0 l (by omega)
  rw [← hm] at this
  exact this
theorem p_msnL {c : Nat} {lw : Law} {bd0 : Int32} {S : Nat → Int32} (ok : SOk c S) : ∀ (k m t b : Nat) (l : Int32) (M : Mem), l = 0 ∨ l = 1 → 1 ≤ t → t + k = 9 → Sh M → Mq M lw bd0 → Hb b (hM M) → b + k ≤ 20000 → MS M c S → ∃ N, gX12_isSeen_4 (m + k + 1) M 55 l (nI t) = some (if aSn lw bd0 S c k t (aHour lw bd0 (hM M)) = true then l else 0, N) ∧ Fm M N := by
  intro k
  induction k with
  | zero =>
    intro m t b l M hl h1 ht hS hq hH hb hc
    have : t = 9 := by omega
    subst this
    refine ⟨M, ?_, Fm_r⟩
    have hb1 : b01 l = true := by rcases hl with rfl | rfl <;> rfl
    rw [gX12_isSeen_4_s, if_pos (by decide), hb1, ck_t]
    rfl
  | succ k ih =>
    intro m t b l M hl h1 ht hS hq hH hb hc
    obtain ⟨N, n1, n2, n3⟩ := p_mhour hS hq hH.1
    have hSN := Fm_Sh n2 hS
    have hcN := MS_Fm hc n2
    rw [show m + (k + 1) + 1 = (m + k + 1) + 1 by omega, gX12_isSeen_4_s, if_neg (by rw [show (9 : Int32) = nI 9 from rfl, leL (by omega) (by omega)]; omega), if_neg (by rw [show (0 : Int32) = nI 0 from rfl, leL (by omega) (by omega)]; omega), k_55 hS, ck_t, n1, bd_s, p_msn1 hSN hcN ok, nI_1, n3]
    unfold aSn
    have hBN : Hb (b + 1) (hM N) := by rw [n3]; exact (Hb_hour hH (by omega)).1
    by_cases g : aAt (aHour lw bd0 (hM M)) S (nI t) c 0 = true
    · rw [if_pos g, if_pos g]
      obtain ⟨P, p1, p2⟩ := ih m (t + 1) (b + 1) l N hl (by omega) (by omega) hSN (Fm_Mq n2 hq) hBN (by omega) hcN
      rw [n3] at p1
      exact ⟨P, p1, Fm_t n2 p2⟩
    · rw [if_neg g, if_neg g]
      obtain ⟨P, p1, p2⟩ := ih m (t + 1) (b + 1) 0 N (Or.inl rfl) (by omega) (by omega) hSN (Fm_Mq n2 hq) hBN (by omega) hcN
      refine ⟨P, ?_, Fm_t n2 p2⟩
      rw [p1]
      simp
theorem p_isSeen {M : Mem} {c b : Nat} {lw : Law} {bd0 : Int32} {S : Nat → Int32} (ok : SOk c S) (hS : Sh M) (hq : Mq M lw bd0) (hH : Hb b (hM M)) (hb : b + 20 ≤ 20000) (hc : MS M c S) : ∃ N, fX12_isSeen M 55 = some (if aSn lw bd0 S c 9 0 (hM M) = true then 1 else 0, N) ∧ Fm M N := by
  obtain ⟨m, hm⟩ := FUs 9 (by decide)
  show ∃ N, gX12_isSeen_4 FU M 55 1 0 = _ ∧ _
  rw [hm, show m + 9 + 1 = (m + 8 + 1) + 1 by omega, gX12_isSeen_4_s, if_neg (by decide), if_pos (by decide), p_msn1 hS hc ok, show (0 + 1 : Int32) = nI 1 from rfl, show (0 : Int32) = nI 0 from rfl]
  show ∃ N, _ = some (if (if aAt (hM M) S (nI 0) c 0 = true then aSn lw bd0 S c 8 1 (aHour lw bd0 (hM M)) else false) = true then 1 else nI 0, N) ∧ _
  by_cases g : aAt (hM M) S (nI 0) c 0 = true
  · rw [if_pos g, if_pos g]
    exact p_msnL ok 8 m 1 b 1 M (Or.inr rfl) (Nat.le_refl _) rfl hS hq hH (by omega) hc
  · rw [if_neg g, if_neg g]
    obtain ⟨P, p1, p2⟩ := p_msnL (lw := lw) (bd0 := bd0) ok 8 m 1 b 0 M (Or.inl rfl) (Nat.le_refl _) rfl hS hq hH (by omega) hc
    refine ⟨P, ?_, p2⟩
    rw [show (nI 0 : Int32) = 0 from rfl, p1]
    simp
