/-! ===== a part of n / 25 ===== -/
def gcdL : Nat → Int32 → Int32 → Int32
  | 0, x, _ => x
  | k + 1, x, y => if y = 0 then x else gcdL k y (x - x / y * y)
def gcdZ : Nat → Int32 → Int32 → Bool
  | 0, _, y => decide (y = 0)
  | k + 1, x, y => if y = 0 then true else gcdZ k y (x - x / y * y)
def aPt (a b c pt : Int32) : Int64 := if pt = 0 then (a / c).toInt64 else (b / c).toInt64
theorem p_gcd {M : Mem} {a b pt : Int32} : ∀ (k m : Nat) (x y : Int32), gcdZ k x y = true → ¬ gcdL k x y = 0 → gX12_part_5 (m + k + 1) M a b pt x y = some (aPt a b (gcdL k x y) pt, M) := by
  intro k
  induction k with
  | zero =>
    intro m x y hz hn
    have hy : y = 0 := of_decide_eq_true hz
    have hn' : ¬ x = 0 := hn
    rw [gX12_part_5_s, if_pos hy]
    unfold aPt
    rw [show decide (¬ x = 0) = true from decide_eq_true hn', ck_t, ck_t]
    show _ = some (if pt = 0 then (a / x).toInt64 else (b / x).toInt64, M)
    split <;> rfl
  | succ k ih =>
    intro m x y hz hn
    rw [show m + (k + 1) + 1 = (m + k + 1) + 1 by omega, gX12_part_5_s]
    unfold gcdZ at hz
    unfold gcdL at hn ⊢
    by_cases hy : y = 0
    · rw [if_pos hy]
      rw [if_pos hy] at hn
      rw [if_pos hy]
      unfold aPt
      rw [show decide (¬ x = 0) = true from decide_eq_true hn, ck_t, ck_t]
      split <;> rfl
    · rw [if_neg hy] at hz hn
      rw [if_neg hy, if_neg hy, show decide (¬ y = 0) = true from decide_eq_true hy, ck_t]
      exact ih m y _ hz hn
def aCom (a : Int32) : Int32 := if a - a / 25 * 25 = 0 then 25 else if a - a / 5 * 5 = 0 then 5 else 1
theorem gcd_25 : ∀ a, a < 2500 → gcdZ 10 (nI a) 25 = true ∧ gcdL 10 (nI a) 25 = aCom (nI a) := by decide +kernel
theorem aCom_0 {a : Int32} : ¬ aCom a = 0 := by
  unfold aCom
  split
  · decide
  · split <;> decide
theorem p_part {M : Mem} {a : Nat} {pt : Int32} (ha : a < 2500) : fX12_part M (nI a) 25 pt = some (aPt (nI a) 25 (aCom (nI a)) pt, M) := by
  obtain ⟨m, hm⟩ := FUs 10 (by decide)
  obtain ⟨g1, g2⟩ := gcd_25 a ha
  show gX12_part_5 FU M (nI a) 25 pt (nI a) 25 = _
  rw [hm, p_gcd 10 m (nI a) 25 g1 (by rw [g2]; exact aCom_0), g2]
theorem p_share {M : Mem} {a pt : Int32} : fX11_shareOfCells M a pt = some (aPt a 25 (aCom a) pt, M) := by
  unfold fX11_shareOfCells gX11_shareOfCells_23 aCom aPt
  by_cases h1 : a - a / 25 * 25 = 0
  · simp only [h1, if_true, show decide (¬ (25 : Int32) = 0) = true by decide, ck_t]
    split <;> rfl
  · by_cases h2 : a - a / 5 * 5 = 0
    · simp only [h1, h2, if_true, if_false, show decide (¬ (5 : Int32) = 0) = true by decide, ck_t]
      split <;> rfl
    · simp only [h1, h2, if_false, show decide (¬ (1 : Int32) = 0) = true by decide, ck_t]
      split <;> rfl
theorem cs_part (x : Int32) : ((∀ M, fX11_isFractionPart M x = some (1, M)) ∧ ∀ M, fX12_within M x 0 1 = some (1, M)) ∨ ((∀ M, fX11_isFractionPart M x = some (0, M)) ∧ ∀ M, fX12_within M x 0 1 = some (0, M)) := by
  have c : ∀ M, fX11_isFractionPart M x = if x = 0 then some (1, M) else if x = 1 then some (1, M) else some (0, M) := fun M => rfl
  rcases rng (L := 2) (K := 1) (n := 2) x rfl rfl (by decide) with ⟨k, hk, rfl, h1, h2, h3, h4, h5⟩ | h1 | ⟨h1, h2, h3, h4, h5⟩
  · refine Or.inl ⟨fun M => ?_, fun M => wi_1 (L := 2) h1 h5⟩
    rw [c]
    rcases (show k = 0 ∨ k = 1 by omega) with rfl | rfl
    · rfl
    · rfl
  · refine Or.inr ⟨fun M => ?_, fun M => wi_0 h1⟩
    rw [c, if_neg (by rintro rfl; exact absurd h1 (by decide)), if_neg (by rintro rfl; exact absurd h1 (by decide))]
  · refine Or.inr ⟨fun M => ?_, fun M => wi_2 h5⟩
    rw [c, if_neg (by rintro rfl; exact absurd h5 (by decide)), if_neg (by rintro rfl; exact absurd h5 (by decide))]
theorem aWear_in {H : Hall} (h : Hw H) : ∀ (n c t : Nat), c + n = 25 → t ≤ 99 * c → ∃ w, w ≤ 99 * 25 ∧ aWear H n c (nI t) = nI w := by
  intro n
  induction n with
  | zero =>
    intro c t hc ht
    exact ⟨t, by omega, rfl⟩
  | succ n ih =>
    intro c t hc ht
    unfold aWear
    obtain ⟨w, hw, ew⟩ := h c (by omega)
    rw [ew, nI_add]
    exact ih (c + 1) (t + w) (by omega) (by omega)
/-! ===== odds ===== -/
def aOdd (lw : Law) (bd : Int32) (H : Hall) (p : Nat) (to : Int32) : Nat → Nat → Int32 → Int32
  | 0, _, acc => acc
  | n + 1, c, acc => aOdd lw bd H p to n (c + 1) (if aSent lw bd (up2 H 0 c (aMore (H 0 c) 10)) p = to then acc + 1 else acc)
theorem aOdd_in {lw : Law} {bd : Int32} {H : Hall} {p : Nat} {to : Int32} : ∀ (n c t : Nat), t ≤ c → ∃ w, w ≤ c + n ∧ aOdd lw bd H p to n c (nI t) = nI w := by
  intro n
  induction n with
  | zero => intro c t h; exact ⟨t, by omega, rfl⟩
  | succ n ih =>
    intro c t h
    unfold aOdd
    split
    · rw [nI_1]
      obtain ⟨w, w1, w2⟩ := ih (c + 1) (t + 1) (by omega)
      exact ⟨w, by omega, w2⟩
    · obtain ⟨w, w1, w2⟩ := ih (c + 1) t (by omega)
      exact ⟨w, by omega, w2⟩
theorem p_oddL {s p : Nat} {to pt : Int32} {lw : Law} {bd : Nat} {H : Hall} (hp : p < 6) (hB : Hb 9999 H) : ∀ (n m c : Nat) (acc : Int32) (M : Mem), c + n = 25 → Tr M s lw bd 9999 → hC M 39 = H → (∀ i, i < 25 → mI M 32 i = H 0 i) → ∃ N, gX11_odds_43 (m + n + 1) M 0 (nI p) to pt acc (nI c) = some (aPt (aOdd lw (nI bd) H p to n c acc) 25 (aCom (aOdd lw (nI bd) H p to n c acc)) pt, N) ∧ Fr M N 39 := by
  intro n
  induction n with
  | zero =>
    intro m c acc M hc t e e0
    have : c = 25 := by omega
    subst this
    refine ⟨M, ?_, Fr_r⟩
    rw [gX11_odds_43_s, if_pos (by decide), p_share, bd_s]
    rfl
  | succ n ih =>
    intro m c acc M hc t e e0
    have hS := t.1
    have c25 : c < 25 := by omega
    have ic := inb_n c25 (by decide : 25 < 1000000)
    have tc := tn (show c < 1000000 by omega)
    obtain ⟨w, hw, ew⟩ := hB.1.2.2.1 c c25
    have f2 : Fr M (stI M 40 c (aMore (H 0 c) 10)) 39 := Fr_stI (by decide)
    have h2 : hC (stI M 40 c (aMore (H 0 c) 10)) 39 = up2 H 0 c (aMore (H 0 c) 10) := by
      rw [show hC (stI M 40 c (aMore (H 0 c) 10)) 39 = up2 (hC M 39) 0 c (aMore (H 0 c) 10) from hx_put (b := 40) (c := 39) (k := 0) (by decide) c25 (by decide), e]
    have t2 : Tr (stI M 40 c (aMore (H 0 c) 10)) s lw bd 9999 := Tr_Fr t f2 (by rw [h2]; exact Hb_more (i := 10) hB c25 ew (by omega))
    obtain ⟨N, n1, n2, n3, n4⟩ := t_sends t2 hp
    have ht := p_htread (x := 10) (Hl_39 hS) c25
    rw [e] at ht
    rw [h2] at n1 n3
    have hS2 := t2.1
    have hSN := n4.1
    have e0N : ∀ i, i < 25 → mI N 32 i = H 0 i := fun i hi => (congrFun ((Fr_t f2 n2).2.2 32 (by omega)) i).trans (e0 i hi)
    have f4 : Fr N (stI N 40 c (H 0 c)) 39 := Fr_stI (by decide)
    have h4 : hC (stI N 40 c (H 0 c)) 39 = H := by
      rw [show hC (stI N 40 c (H 0 c)) 39 = up2 (hC N 39) 0 c (H 0 c) from hx_put (b := 40) (c := 39) (k := 0) (by decide) c25 (by decide), n3, up2_up2, up2_self]
    have t4 : Tr (stI N 40 c (H 0 c)) s lw bd 9999 := Tr_Fr n4 f4 (by rw [h4]; exact hB)
    have nx := fun acc => ih m (c + 1) acc (stI N 40 c (H 0 c)) (by omega) t4 h4 (fun i hi => by rw [mI_stI, if_neg (by omega)]; exact e0N i hi)
    rw [show m + (n + 1) + 1 = (m + n + 1) + 1 by omega, gX11_odds_43_s, if_neg (ge25 c25)]
    simp only [k_0 hS, r_0_1 hS, k_39 hS, ck_t, rb_s, ht, bd_s, k_0 hS2, r_0_1 hS2, k_39 hS2, n1]
    unfold gX11_odds_76
    simp only [k_0 hSN, r_0_1 hSN, k_39 hSN, r_39_3 hSN, r_0_0 hSN, k_31 hSN, r_31_3 hSN, k_32 hSN, g_32 hSN, k_40 hSN, g_40 hSN, ic, tc, ck_t, rb_s, e0N c c25, nI_1]
    unfold aOdd
    by_cases g : aSent lw (nI bd) (up2 H 0 c (aMore (H 0 c) 10)) p = to
    · rw [if_pos g, if_pos g]
      obtain ⟨P, p1, p2⟩ := nx (acc + 1)
      exact ⟨P, p1, Fr_t (Fr_t f2 n2) (Fr_t f4 p2)⟩
    · rw [if_neg g, if_neg g]
      obtain ⟨P, p1, p2⟩ := nx acc
      exact ⟨P, p1, Fr_t (Fr_t f2 n2) (Fr_t f4 p2)⟩
theorem p_moddL {M : Mem} {p : Nat} {to pt : Int32} {lw : Law} {bd : Int32} (h : Sh M) (hq : Mq M lw bd) (hp : p < 6) (hB : Hb 9999 (hM M)) : ∀ (n m c t : Nat) (G : Nat → Int32), c + n = 25 → t ≤ c → ∃ G2, gX12_odds_34 (m + n + 1) (wF M 69 G) 55 (nI p) to pt (nI t) (nI c) = some (aPt (aOdd lw bd (hM M) p to n c (nI t)) 25 (aCom (aOdd lw bd (hM M) p to n c (nI t))) pt, wF M 69 G2) := by
  intro n
  induction n with
  | zero =>
    intro m c t G hc ht
    have : c = 25 := by omega
    subst this
    refine ⟨G, ?_⟩
    rw [gX12_odds_34_s, if_pos (by decide), p_part (by omega), bd_s]
    rfl
  | succ n ih =>
    intro m c t G hc ht
    have c25 : c < 25 := by omega
    have ic := inb_n c25 (by decide : 25 < 1000000)
    have tc := tn (show c < 1000000 by omega)
    obtain ⟨w, hw, ew⟩ := hB.1.2.2.1 c c25
    have hS2 : Sh (wF M 69 G) := Sh_1 rfl h
    have e0 : mI (wF M 69 G) 56 c = nI w := by
      rw [mI_wF, if_neg (by omega), hM_0 c25]
      exact ew
    have e1 : stI (wF M 69 G) 56 c (aMore (nI w) 10) = wF (stI M 56 c (aMore (nI w) 10)) 69 G := stI_wF_ne _ _ _ _ _ _ (by decide)
    have h3 : hM (wF (stI M 56 c (aMore (nI w) 10)) 69 G) = up2 (hM M) 0 c (aMore (nI w) 10) := by rw [hM_w (by decide), hM_s0 c25]
    have f3 : Fm M (wF (stI M 56 c (aMore (nI w) 10)) 69 G) := Fm_t (Fm_stI (Or.inl (by decide))) (Fm_wF (Or.inr rfl))
    have hb3 : Hb 9999 (up2 (hM M) 0 c (aMore (nI w) 10)) := by
      have := Hb_more (i := 10) hB c25 ew (by omega)
      rwa [ew] at this
    obtain ⟨G2, g2⟩ := p_msent (Fm_Sh f3 h) (Fm_Mq f3 hq) (show Hok (hM (wF (stI M 56 c (aMore (nI w) 10)) 69 G)) by rw [h3]; exact hb3.1) hp
    rw [h3, wF_wF] at g2
    have hS3 : Sh (wF (stI M 56 c (aMore (nI w) 10)) 69 G2) := Sh_1 rfl h
    have e4 : stI (wF (stI M 56 c (aMore (nI w) 10)) 69 G2) 56 c (nI w) = wF M 69 G2 := by
      rw [stI_wF_ne _ _ _ _ _ _ (by decide), stI_stI, stI_same (by rw [hM_0 c25]; exact ew)]
    have hl : aHeld (nI w + 10) = aMore (nI w) 10 := aHeld_more (n := 10) (by omega)
    rw [show m + (n + 1) + 1 = (m + n + 1) + 1 by omega, gX12_odds_34_s, if_neg (ge25 c25)]
    simp only [k_55 hS2, r_55_0 hS2, k_56 hS2, g_56 hS2, ck_t, rb_s, p_held, bd_s, ic, tc, e0, hl, e1, g2]
    unfold gX12_odds_77
    simp only [k_55 hS3, r_55_0 hS3, k_56 hS3, g_56 hS3, ck_t, rb_s, ic, tc, e4, nI_1]
    unfold aOdd
    rw [ew]
    by_cases g : aSent lw bd (up2 (hM M) 0 c (aMore (nI w) 10)) p = to
    · rw [if_pos g, if_pos g, nI_1]
      exact ih m (c + 1) (t + 1) G2 (by omega) (by omega)
    · rw [if_neg g, if_neg g]
      exact ih m (c + 1) t G2 (by omega) (by omega)
theorem m_odds {M : Mem} {n : Nat} (h : Inv M n) (x y z : Int32) : Ok1 (fun M => fX11_odds M 0 x y z) (fun M => fX12_odds M 55 x y z) M := by
  obtain ⟨s, lw, bd, o⟩ := Op_of h
  obtain ⟨q, hq, e1, e2⟩ := Op_n o
  have hS := o.1
  have eH := o.2.2.2.2.1
  have hB := o.2.2.2.2.2.1
  rcases cs_person hq x with ⟨p, hp, hp6, rfl, c1, m1⟩ | ⟨c0, m0⟩
  · rcases cs_cell y with ⟨c, hc, rfl, d1, d2⟩ | ⟨d1, d2⟩
    · rcases cs_part z with ⟨g1, g2⟩ | ⟨g1, g2⟩
      · obtain ⟨N, n1, n2, n3, n4⟩ := p_try2 o
        obtain ⟨m, hm⟩ := FUs 25 (by decide)
        have e32 : ∀ i, i < 25 → mI N 32 i = hM M 0 i := fun i hi => (congrFun (n2.2.2 32 (by omega)) i).trans ((cm_0 eH hi).trans (hM_0 hi))
        obtain ⟨P, p1, p2⟩ := p_oddL (lw := lw) (bd := bd) (to := nI c) (pt := z) hp6 hB 25 m 0 0 N rfl n4 n3 e32
        rw [← hm] at p1
        have qc := Qc_t n2 (Qc_Fr p2)
        obtain ⟨o2, eh⟩ := Op_qc o qc
        have hS2 := o2.1
        obtain ⟨G2, k2⟩ := p_moddL (to := nI c) (pt := z) hS2 (Op_Mq o2) hp6 o2.2.2.2.2.2.1 25 m 0 0 (mI P 69) rfl (Nat.le_refl _)
        rw [wF_self, ← hm, eh] at k2
        refine Ok_q h (a := aPt (aOdd lw (nI bd) (hM M) p (nI c) 25 0 0) 25 (aCom (aOdd lw (nI bd) (hM M) p (nI c) 25 0 0)) z) (N := P) ?_ qc ⟨_, ?_, Qm_69 (F := G2)⟩
        · simp only [fX11_odds, k_0 hS, c1 M hS e1, bd_s, d1, g1, show ¬ (1 : Int32) = 0 by decide, if_false, r_0_0 hS, r_0_1 hS, k_39 hS, ck_t, rb_s, n1]
          exact p1
        · have e2' : mI P 55 1 = nI q := by rw [hM_p, eh]; exact e2
          simp only [fX12_odds, k_55 hS2, m1 P hS2 e2', bd_s, d2, g2, show ¬ (1 : Int32) = 0 by decide, if_false, ck_t]
          exact k2
      · refine Ok_m h (a := -9223372036854775808) ?_ ?_
        · simp only [fX11_odds, k_0 hS, c1 M hS e1, d1, g1, ck_t, bd_s, show ¬ (1 : Int32) = 0 by decide, if_true, if_false]
        · simp only [fX12_odds, k_55 hS, m1 M hS e2, d2, g2, ck_t, bd_s, show ¬ (1 : Int32) = 0 by decide, if_true, if_false]
    · refine Ok_m h (a := -9223372036854775808) ?_ ?_
      · simp only [fX11_odds, k_0 hS, c1 M hS e1, d1, ck_t, bd_s, show ¬ (1 : Int32) = 0 by decide, if_true, if_false]
      · simp only [fX12_odds, k_55 hS, m1 M hS e2, d2, ck_t, bd_s, show ¬ (1 : Int32) = 0 by decide, if_true, if_false]
  · refine Ok_m h (a := -9223372036854775808) ?_ ?_
    · simp only [fX11_odds, k_0 hS, c0 M hS e1, ck_t, bd_s, if_true]
    · simp only [fX12_odds, k_55 hS, m0 M hS e2, ck_t, bd_s, if_true]
/-! ===== mean ===== -/
theorem p_mmeanL {lw : Law} {bd0 : Int32} {l2 : Int32} : ∀ (n m i b : Nat) (M : Mem), Sh M → Mq M lw bd0 → Hb b (hM M) → b + n ≤ 20000 → i + n ≤ 1000 →
    ∃ N, gX12_mean_33 (m + n + 1) M 55 (nI (i + n)) l2 (nI i) = gX12_mean_33 (m + 1) N 55 (nI (i + n)) l2 (nI (i + n)) ∧ Fm M N ∧ hM N = aHours lw bd0 n (hM M) := by
  intro n
  induction n with
  | zero =>
    intro m i b M h hq hH hb hi
    exact ⟨M, rfl, Fm_r, rfl⟩
  | succ n ih =>
    intro m i b M h hq hH hb hi
    obtain ⟨N, k1, k2, k3⟩ := p_mhour h hq hH.1
    obtain ⟨P, p1, p2, p3⟩ := ih m (i + 1) (b + 1) N (Fm_Sh k2 h) (Fm_Mq k2 hq) (by rw [k3]; exact (Hb_hour hH (by omega)).1) (by omega) (by omega)
    refine ⟨P, ?_, Fm_t k2 p2, ?_⟩
    · rw [show m + (n + 1) + 1 = (m + n + 1) + 1 by omega, gX12_mean_33_s, if_neg (by rw [leL (by omega) (by omega)]; omega), k_55 h, ck_t, k1, bd_s, nI_1, show i + (n + 1) = i + 1 + n by omega]
      exact p1
    · rw [p3, k3]
      rfl
theorem m_mean {M : Mem} {n : Nat} (h : Inv M n) (x y : Int32) : Ok1 (fun M => fX11_mean M 0 x y) (fun M => fX12_mean M 55 x y) M := by
  obtain ⟨s, lw, bd, o⟩ := Op_of h
  have hS := o.1
  have eH := o.2.2.2.2.1
  have hB := o.2.2.2.2.2.1
  rcases cs_span x with ⟨k, hk, rfl, d1, d2⟩ | ⟨d1, d2⟩
  · rcases cs_part y with ⟨g1, g2⟩ | ⟨g1, g2⟩
    · obtain ⟨N, n1, n2, n3, n4⟩ := p_try2 o
      obtain ⟨P, p1, p2, p3, p4⟩ := t_goHours (n := k) n4 (by omega) (by omega)
      have hSN := n4.1
      have hSP := p4.1
      rw [n3] at p3
      have qc := Qc_t n2 (Qc_Fr p2)
      obtain ⟨o2, eh⟩ := Op_qc o qc
      have hw : Hw (aHours lw (nI bd) k (hM M)) := by
        rw [← p3]
        exact p4.2.2.2.1.2.2.1
      obtain ⟨w, hw1, hw2⟩ := aWear_in hw 25 0 0 rfl (by omega)
      have hw2' : aWear (aHours lw (nI bd) k (hM M)) 25 0 0 = nI w := hw2
      obtain ⟨A, a1, a2, a3, -⟩ := Wk_0 o2.1 (Or.inl rfl)
      obtain ⟨m, hm⟩ := FUs k (by omega)
      obtain ⟨B, b1, b2, b3⟩ := p_mmeanL (lw := lw) (bd0 := nI bd) (l2 := y) k m 0 9999 A (Wk_Sh a2 o2.1) (Wk_Mq a2 (Op_Mq o2)) (by rw [a3]; exact o2.2.2.2.2.2.1) (by omega) (by omega)
      rw [← hm, Nat.zero_add, gX12_mean_33_s, if_pos (by rw [leL (by omega) (by omega)]; exact Nat.le_refl _)] at b1
      rw [a3, eh] at b3
      have wk := Wk_Fm a2 (Or.inl rfl) b2
      have hSB := Wk_Sh wk o2.1
      obtain ⟨Q, q1, q2, -⟩ := Wk_back o2.1 wk (Or.inl rfl)
      refine Ok_q h (a := aPt (nI w) 25 (aCom (nI w)) y) (N := P) ?_ qc ⟨Q, ?_, q2⟩
      · simp only [fX11_mean, d1, g1, bd_s, show ¬ (1 : Int32) = 0 by decide, if_false, k_0 hS, r_0_0 hS, r_0_1 hS, k_39 hS, ck_t, rb_s, n1, k_0 hSN, r_0_1 hSN, k_39 hSN, p1, k_0 hSP, r_0_1 hSP, k_39 hSP, p_wearOfAll (Hl_39 hSP), p3, hw2', p_share]
      · simp only [fX12_mean, d2, g2, bd_s, show ¬ (1 : Int32) = 0 by decide, if_false, k_55 o2.1, r_55_38 o2.1, ck_t, rb_s, a1]
        show gX12_mean_33 FU A 55 (nI k) y (nI 0) = _
        rw [b1]
        simp only [k_55 hSB, ck_t, p_mallWear hSB, bd_s, r_55_38 hSB, rb_s, q1, b3, hw2', p_part (show w < 2500 by omega)]
    · refine Ok_m h (a := -9223372036854775808) ?_ ?_
      · simp only [fX11_mean, d1, g1, bd_s, show ¬ (1 : Int32) = 0 by decide, if_true, if_false]
      · simp only [fX12_mean, d2, g2, bd_s, show ¬ (1 : Int32) = 0 by decide, if_true, if_false]
  · refine Ok_m h (a := -9223372036854775808) ?_ ?_
    · simp only [fX11_mean, d1, bd_s, if_true]
    · simp only [fX12_mean, d2, bd_s, if_true]
