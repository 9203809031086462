/-! ===== night ===== -/
theorem up2_up2 {H : Hall} {k i : Nat} {x y : Int32} : up2 (up2 H k i x) k i y = up2 H k i y := by
  funext a b
  unfold up2
  split <;> rfl
theorem up2_self {H : Hall} {k i : Nat} : up2 H k i (H k i) = H := by
  funext a b
  unfold up2
  by_cases h : a = k ∧ b = i
  · rw [if_pos h, h.1, h.2]
  · rw [if_neg h]
theorem stI_stI {M : Mem} {a i : Nat} {x y : Int32} : stI (stI M a i x) a i y = stI M a i y := by
  have : up2 (up2 M.2.1 a i x) a i y = up2 M.2.1 a i y := up2_up2
  show (M.1, up2 (up2 M.2.1 a i x) a i y, M.2.2) = (M.1, up2 M.2.1 a i y, M.2.2)
  rw [this]
def aNi (lw : Law) (bd : Int32) (H : Hall) (p c i : Nat) : Bool := decide (aSent lw bd (up2 H 0 c (aMore (H 0 c) (nI i))) p = nI c)
def aUp (P : Nat → Bool) : Nat → Nat → Int32
  | 0, _ => -5
  | n + 1, i => if P i = true then nI i else aUp P n (i + 1)
def aDn (P : Nat → Bool) : Nat → Int32 → Int32
  | 0, f => f
  | k + 1, f => aDn P k (if P k = true then nI k else f)
theorem aDn_up {P : Nat → Bool} : ∀ (k n : Nat), aDn P k (aUp P n k) = aUp P (n + k) 0 := by
  intro k
  induction k with
  | zero => intro n; rfl
  | succ k ih =>
    intro n
    show aDn P k (if P k = true then nI k else aUp P n (k + 1)) = _
    have := ih (n + 1)
    rw [show n + (k + 1) = n + 1 + k by omega, ← this]
    rfl
theorem t_sends {M : Mem} {s p : Nat} {lw : Law} {bd b : Nat} (h : Tr M s lw bd b) (hp : p < 6) : ∃ N, fX3_sends M 39 (nI p) = some (aSent lw (nI bd) (hC M 39) p, N) ∧ Fr M N 39 ∧ hC N 39 = hC M 39 ∧ Tr N s lw bd b := by
  obtain ⟨N, n1, n2, n3⟩ := p_sends' (Hl_39 h.1) (Kd_s h.1) h.2.1 h.2.2.1 (Or.inr rfl) h.2.2.2.1 hp
  exact ⟨N, n1, n2, n3, Tr_Fr h n2 (by rw [n3]; exact h.2.2.2)⟩
theorem Hb_more {b c w i : Nat} {H : Hall} (h : Hb b H) (hc : c < 25) (ew : H 0 c = nI w) (hw : w + i < 300) : Hb b (up2 H 0 c (aMore (H 0 c) (nI i))) := by
  rw [ew, aMore_n hw]
  exact ⟨Hok_wear h.1 hc (by omega), h.2⟩
theorem p_niL {s p c w : Nat} {lw : Law} {bd : Nat} {H : Hall} (hp : p < 6) (hc : c < 25) (hB : Hb 9999 H) (ew : H 0 c = nI w) (hw : w ≤ 99) : ∀ (n m i : Nat) (x : Int32) (M : Mem), i + n = 100 → Tr M s lw bd 9999 → hC M 39 = up2 H 0 c x → mI M 32 c = H 0 c → ∃ N, gX11_night_49 (m + n + 1) M 0 (nI p) (nI c) (nI i) = some (aUp (aNi lw (nI bd) H p c) n i, N) ∧ Fr M N 39 := by
  intro n
  induction n with
  | zero =>
    intro m i x M hi t e e0
    have : i = 100 := by omega
    subst this
    refine ⟨M, ?_, Fr_r⟩
    rw [gX11_night_49_s, if_pos (by decide)]
    rfl
  | succ n ih =>
    intro m i x M hi t e e0
    have hS := t.1
    have ic := inb_n hc (by decide : 25 < 1000000)
    have tc := tn (show c < 1000000 by omega)
    have f1 : Fr M (stI M 40 c (H 0 c)) 39 := Fr_stI (by decide)
    have h1 : hC (stI M 40 c (H 0 c)) 39 = H := by
      rw [show hC (stI M 40 c (H 0 c)) 39 = up2 (hC M 39) 0 c (H 0 c) from hx_put (b := 40) (c := 39) (k := 0) (by decide) hc (by decide), e, up2_up2, up2_self]
    have f2 : Fr M (stI (stI M 40 c (H 0 c)) 40 c (aMore (H 0 c) (nI i))) 39 := Fr_t f1 (Fr_stI (by decide))
    have h2 : hC (stI (stI M 40 c (H 0 c)) 40 c (aMore (H 0 c) (nI i))) 39 = up2 H 0 c (aMore (H 0 c) (nI i)) := by
      rw [show hC (stI (stI M 40 c (H 0 c)) 40 c (aMore (H 0 c) (nI i))) 39 = up2 (hC (stI M 40 c (H 0 c)) 39) 0 c (aMore (H 0 c) (nI i)) from hx_put (b := 40) (c := 39) (k := 0) (by decide) hc (by decide), h1]
    have t2 : Tr (stI (stI M 40 c (H 0 c)) 40 c (aMore (H 0 c) (nI i))) s lw bd 9999 := Tr_Fr t f2 (by rw [h2]; exact Hb_more hB hc ew (by omega))
    obtain ⟨N, n1, n2, n3, n4⟩ := t_sends t2 hp
    have ht := p_htread (x := nI i) (Hl_39 (Sh_1 f1.1 hS)) hc
    rw [h1] at ht
    rw [h2] at n1 n3
    have hS2 := t2.1
    have e0N : mI N 32 c = H 0 c := by
      rw [← e0]
      exact congrFun ((Fr_t f2 n2).2.2 32 (by omega)) c
    rw [show m + (n + 1) + 1 = (m + n + 1) + 1 by omega, gX11_night_49_s, if_neg (by rw [show (99 : Int32) = nI 99 from rfl, ltL (by omega) (by omega)]; omega)]
    simp only [k_0 hS, r_0_1 hS, k_39 hS, r_39_3 hS, r_0_0 hS, k_31 hS, r_31_3 hS, k_32 hS, g_32 hS, k_40 hS, g_40 hS, ck_t, rb_s, ic, tc, e0, ht, bd_s, k_0 hS2, r_0_1 hS2, k_39 hS2, n1, nI_1]
    unfold aUp aNi
    by_cases g : aSent lw (nI bd) (up2 H 0 c (aMore (H 0 c) (nI i))) p = nI c
    · rw [if_pos g, if_pos (decide_eq_true g)]
      exact ⟨N, rfl, Fr_t f2 n2⟩
    · rw [if_neg g, if_neg (by simpa using g)]
      obtain ⟨P, p1, p2⟩ := ih m (i + 1) _ N (by omega) n4 n3 e0N
      exact ⟨P, p1, Fr_t (Fr_t f2 n2) p2⟩
theorem nI_m1 (k : Nat) : (nI (k + 1) + (-1) : Int32) = nI k := by
  rw [← nI_1 k, Int32.add_assoc, show (1 + -1 : Int32) = 0 by decide, Int32.add_zero]
theorem p_mniL {M : Mem} {p c w : Nat} {lw : Law} {bd : Int32} (h : Sh M) (hq : Mq M lw bd) (hp : p < 6) (hc : c < 25) (hB : Hb 9999 (hM M)) (ew : hM M 0 c = nI w) (hw : w ≤ 99) : ∀ (k m : Nat) (f x : Int32) (G : Nat → Int32), k ≤ 100 → ∃ G2, gX12_night_48 (m + k + 1) (wF (stI M 56 c x) 69 G) 55 (nI p) (nI c) (nI w) f (nI k + (-1)) = some (aDn (aNi lw bd (hM M) p c) k f, wF M 69 G2) := by
  intro k
  induction k with
  | zero =>
    intro m f x G _
    refine ⟨G, ?_⟩
    have hS2 : Sh (wF (stI M 56 c x) 69 G) := Sh_1 rfl h
    rw [gX12_night_48_s, if_pos (by decide)]
    simp only [k_55 hS2, r_55_0 hS2, k_56 hS2, g_56 hS2, ck_t, rb_s, inb_n hc (by decide : 25 < 1000000), tn (show c < 1000000 by omega)]
    rw [stI_wF_ne _ _ _ _ _ _ (by decide), stI_stI, stI_same (by rw [hM_0 hc]; exact ew)]
    rfl
  | succ k ih =>
    intro m f x G hk
    have hS2 : Sh (wF (stI M 56 c x) 69 G) := Sh_1 rfl h
    have e1 : stI (wF (stI M 56 c x) 69 G) 56 c (aMore (nI w) (nI k)) = wF (stI M 56 c (aMore (nI w) (nI k))) 69 G := by rw [stI_wF_ne _ _ _ _ _ _ (by decide), stI_stI]
    have h3 : hM (wF (stI M 56 c (aMore (nI w) (nI k))) 69 G) = up2 (hM M) 0 c (aMore (nI w) (nI k)) := by rw [hM_w (by decide), hM_s0 hc]
    have f3 : Fm M (wF (stI M 56 c (aMore (nI w) (nI k))) 69 G) := Fm_t (Fm_stI (Or.inl (by decide))) (Fm_wF (Or.inr rfl))
    have hb3 : Hb 9999 (up2 (hM M) 0 c (aMore (nI w) (nI k))) := by
      have := Hb_more (i := k) hB hc ew (by omega)
      rwa [ew] at this
    obtain ⟨G2, g2⟩ := p_msent (Fm_Sh f3 h) (Fm_Mq f3 hq) (show Hok (hM (wF (stI M 56 c (aMore (nI w) (nI k))) 69 G)) by rw [h3]; exact hb3.1) hp
    rw [h3, wF_wF] at g2
    rw [show m + (k + 1) + 1 = (m + k + 1) + 1 by omega, nI_m1, gX12_night_48_s, if_neg (by rw [show (0 : Int32) = nI 0 from rfl, ltL (by omega) (by omega)]; omega)]
    simp only [k_55 hS2, r_55_0 hS2, k_56 hS2, g_56 hS2, ck_t, rb_s, p_held, bd_s, inb_n hc (by decide : 25 < 1000000), tn (show c < 1000000 by omega), aHeld_more (show w + k < 300 by omega), e1, g2]
    unfold gX12_night_79
    show ∃ G2, _ = some (aDn (aNi lw bd (hM M) p c) k (if aNi lw bd (hM M) p c k = true then nI k else f), wF M 69 G2)
    have ea : aNi lw bd (hM M) p c k = decide (aSent lw bd (up2 (hM M) 0 c (aMore (nI w) (nI k))) p = nI c) := by
      unfold aNi
      rw [ew]
    rw [ea]
    by_cases g : aSent lw bd (up2 (hM M) 0 c (aMore (nI w) (nI k))) p = nI c
    · rw [if_pos g, if_pos (decide_eq_true g)]
      exact ih m (nI k) _ G2 (by omega)
    · rw [if_neg g, if_neg (by simpa using g)]
      exact ih m f _ G2 (by omega)
def aNext (c d : Int32) : Nat → Nat → Bool
  | 0, _ => false
  | n + 1, w => if nxt c (nI w) = d then true else aNext c d n (w + 1)
theorem p_isNextL {M : Mem} {c d : Int32} : ∀ (n m w : Nat), w + n = 4 → gX11_isNext_2 (m + n + 1) M c d (nI w) = some (if aNext c d n w = true then 1 else 0, M) := by
  intro n
  induction n with
  | zero =>
    intro m w hw
    have : w = 4 := by omega
    subst this
    rw [gX11_isNext_2_s, if_pos (by decide)]
    rfl
  | succ n ih =>
    intro m w hw
    rw [show m + (n + 1) + 1 = (m + n + 1) + 1 by omega, gX11_isNext_2_s, if_neg (ge4 (by omega)), p_nextTo, bd_s, nI_1]
    unfold aNext
    split
    · rfl
    · exact ih m (w + 1) (by omega)
theorem p_areNextL {M : Mem} {c : Nat} {d : Int32} (hc : c < 25) : ∀ (n m w : Nat), w + n = 4 → gX12_areNext_2 (m + n + 1) M (nI c) d (nI w) = some (if aNext (nI c) d n w = true then 1 else 0, M) := by
  intro n
  induction n with
  | zero =>
    intro m w hw
    have : w = 4 := by omega
    subst this
    rw [gX12_areNext_2_s, if_pos (by decide)]
    rfl
  | succ n ih =>
    intro m w hw
    rw [show m + (n + 1) + 1 = (m + n + 1) + 1 by omega, gX12_areNext_2_s, if_neg (ge4 (by omega)), p_mnext hc (by omega), bd_s, nI_1]
    unfold aNext
    split
    · rfl
    · exact ih m (w + 1) (by omega)
theorem m_night {M : Mem} {n : Nat} (h : Inv M n) (x y : Int32) : Ok1 (fun M => fX11_night M 0 x y) (fun M => fX12_night M 55 x y) M := by
  obtain ⟨s, lw, bd, o⟩ := Op_of h
  obtain ⟨q, hq, e1, e2⟩ := Op_n o
  have hS := o.1
  have eH := o.2.2.2.2.1
  have hB := o.2.2.2.2.2.1
  rcases cs_person hq x with ⟨p, hp, hp6, rfl, c1, m1⟩ | ⟨c0, m0⟩
  · rcases cs_cell y with ⟨c, hc, rfl, d1, d2⟩ | ⟨d1, d2⟩
    · obtain ⟨pl, hpl, epl⟩ := hB.1.2.2.2.2.1 p hp6
      have ip := inb_n hp6 (by decide : 6 < 1000000)
      have tp := tn (show p < 1000000 by omega)
      have ic := inb_n hc (by decide : 25 < 1000000)
      have tc := tn (show c < 1000000 by omega)
      obtain ⟨m4, hm4⟩ := FUs 4 (by decide)
      have cn : ∀ M, fX11_isNext M (nI pl) (nI c) = some (if aNext (nI pl) (nI c) 4 0 = true then 1 else 0, M) := fun M => by
        show gX11_isNext_2 FU M (nI pl) (nI c) (nI 0) = _
        rw [hm4]
        exact p_isNextL 4 m4 0 rfl
      have mn : ∀ M, fX12_areNext M (nI pl) (nI c) = some (if aNext (nI pl) (nI c) 4 0 = true then 1 else 0, M) := fun M => by
        show gX12_areNext_2 FU M (nI pl) (nI c) (nI 0) = _
        rw [hm4]
        exact p_areNextL hpl 4 m4 0 rfl
      have e3 : mI M 35 p = nI pl := by rw [cm_3 eH hp6, hM_3 hp6]; exact epl
      by_cases hx : aNext (nI pl) (nI c) 4 0 = true
      · obtain ⟨w, hw, ew⟩ := hB.1.2.2.1 c hc
        obtain ⟨N, n1, n2, n3, n4⟩ := p_try2 o
        obtain ⟨m5, hm5⟩ := FUs 100 (by decide)
        have e32 : mI N 32 c = hM M 0 c := by
          have e0 : mI N 32 c = mI M 32 c := congrFun (n2.2.2 32 (by omega)) c
          exact e0.trans ((cm_0 eH hc).trans (hM_0 hc))
        obtain ⟨P, p1, p2⟩ := p_niL (lw := lw) (bd := bd) hp6 hc hB ew hw 100 m5 0 (hM M 0 c) N rfl n4 (by rw [n3, up2_self]) e32
        rw [← hm5] at p1
        have qc := Qc_t n2 (Qc_Fr p2)
        obtain ⟨o2, eh⟩ := Op_qc o qc
        have hS2 := o2.1
        have ew2 : hM P 0 c = nI w := by rw [eh]; exact ew
        obtain ⟨G2, g2⟩ := p_mniL hS2 (Op_Mq o2) hp6 hc o2.2.2.2.2.2.1 ew2 hw 100 m5 (-5) (mI P 56 c) (mI P 69) (Nat.le_refl _)
        rw [stI_same rfl, wF_self, ← hm5, show (nI 100 + -1 : Int32) = 99 by decide, eh] at g2
        refine Ok_q h (a := aUp (aNi lw (nI bd) (hM M) p c) 100 0) (N := P) ?_ qc ⟨_, ?_, Qm_69 (F := G2)⟩
        · simp only [fX11_night, k_0 hS, c1 M hS e1, bd_s, d1, show ¬ (1 : Int32) = 0 by decide, if_false, r_0_0 hS, k_31 hS, r_31_7 hS, k_35 hS, g_35 hS, ip, tp, ck_t, rb_s, e3, cn, hx, if_true, r_0_1 hS, k_39 hS, n1]
          exact p1
        · have e2' : mI P 55 1 = nI q := by rw [hM_p, eh]; exact e2
          have e3' : mI P 59 p = nI pl := by rw [hM_3 hp6, eh]; exact epl
          have e4' : mI P 56 c = nI w := by rw [hM_0 hc]; exact ew2
          simp only [fX12_night, k_55 hS2, m1 P hS2 e2', bd_s, d2, show ¬ (1 : Int32) = 0 by decide, if_false, r_55_4 hS2, k_59 hS2, g_59 hS2, ip, tp, ck_t, rb_s, e3', mn, hx, if_true, r_55_0 hS2, k_56 hS2, g_56 hS2, ic, tc, e4']
          rw [g2]
          have := aDn_up (P := aNi lw (nI bd) (hM M) p c) 100 0
          rw [show aUp (aNi lw (nI bd) (hM M) p c) 0 100 = -5 from rfl, Nat.zero_add] at this
          rw [this]
      · refine Ok_m h (a := -2) ?_ ?_
        · simp only [fX11_night, k_0 hS, c1 M hS e1, bd_s, d1, show ¬ (1 : Int32) = 0 by decide, if_false, r_0_0 hS, k_31 hS, r_31_7 hS, k_35 hS, g_35 hS, ip, tp, ck_t, rb_s, e3, cn, hx, if_true]
          simp
        · have e3' : mI M 59 p = nI pl := by rw [hM_3 hp6]; exact epl
          simp only [fX12_night, k_55 hS, m1 M hS e2, bd_s, d2, show ¬ (1 : Int32) = 0 by decide, if_false, r_55_4 hS, k_59 hS, g_59 hS, ip, tp, ck_t, rb_s, e3', mn, hx, if_true]
          simp
    · refine Ok_m h (a := -1) ?_ ?_
      · simp only [fX11_night, k_0 hS, c1 M hS e1, d1, ck_t, bd_s, show ¬ (1 : Int32) = 0 by decide, if_true, if_false]
      · simp only [fX12_night, k_55 hS, m1 M hS e2, d2, ck_t, bd_s, show ¬ (1 : Int32) = 0 by decide, if_true, if_false]
  · refine Ok_m h (a := -1) ?_ ?_
    · simp only [fX11_night, k_0 hS, c0 M hS e1, ck_t, bd_s, if_true]
    · simp only [fX12_night, k_55 hS, m0 M hS e2, ck_t, bd_s, if_true]
