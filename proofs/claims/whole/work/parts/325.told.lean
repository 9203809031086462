/-! ===== told ===== -/
theorem aMost_in {H : Hall} (h : Hw H) : ∀ (n c : Nat) (acc : Int32), c + n = 25 → (∃ w, w ≤ 99 ∧ acc = nI w) → ∃ w, w ≤ 99 ∧ aMost H n c acc = nI w := by
  intro n
  induction n with
  | zero => intro c acc _ ha; exact ha
  | succ n ih =>
    intro c acc hc ha
    unfold aMost
    refine ih (c + 1) _ (by omega) ?_
    split
    · exact h c (by omega)
    · exact ha
theorem aHeld_sub : ∀ w, w < 100 → ∀ n, n < 100 → aHeld (nI w - nI n) = nI (w - n) := by decide +kernel
theorem p_beatL {M : Mem} {w b : Nat} {lw : Law} (h : Sh M) (hq : Mq M lw (nI b)) (hw : w ≤ 99) (hb : b ≤ 99) (b0 : b ≠ 0) : ∀ (n m i : Nat), i + n = w + 1 - b → gX12_beating_29 (m + n + 1) M 55 (nI w) (nI i) = some (nI (i + n), M) := by
  intro n
  induction n with
  | zero =>
    intro m i hi
    rw [gX12_beating_29_s, if_neg (by rw [show (99 : Int32) = nI 99 from rfl, ltL (by omega) (by omega)]; omega), p_held, bd_s, aHeld_sub w (by omega) i (by omega), k_55 h, ck_t, (hq.2 M Sm_r).1, bd_s, if_neg (by rw [leL (by omega) (by omega)]; omega)]
    rfl
  | succ n ih =>
    intro m i hi
    rw [show m + (n + 1) + 1 = (m + n + 1) + 1 by omega, gX12_beating_29_s, if_neg (by rw [show (99 : Int32) = nI 99 from rfl, ltL (by omega) (by omega)]; omega), p_held, bd_s, aHeld_sub w (by omega) i (by omega), k_55 h, ck_t, (hq.2 M Sm_r).1, bd_s, if_pos (by rw [leL (by omega) (by omega)]; omega), nI_1, ih m (i + 1) (by omega), show i + 1 + n = i + (n + 1) by omega]
theorem p_beatN {M : Mem} {w : Nat} {lw : Law} (h : Sh M) (hq : Mq M lw (nI 0)) (hw : w ≤ 99) : ∀ (n m i : Nat), i + n = 100 → gX12_beating_29 (m + n + 1) M 55 (nI w) (nI i) = some (-5, M) := by
  intro n
  induction n with
  | zero =>
    intro m i hi
    have : i = 100 := by omega
    subst this
    rw [gX12_beating_29_s, if_pos (by decide)]
  | succ n ih =>
    intro m i hi
    rw [show m + (n + 1) + 1 = (m + n + 1) + 1 by omega, gX12_beating_29_s, if_neg (by rw [show (99 : Int32) = nI 99 from rfl, ltL (by omega) (by omega)]; omega), p_held, bd_s, aHeld_sub w (by omega) i (by omega), k_55 h, ck_t, (hq.2 M Sm_r).1, bd_s, if_pos (by rw [leL (by omega) (by omega)]; omega), nI_1, ih m (i + 1) (by omega)]
theorem p_mbeatL {M : Mem} (h : Sh M) : ∀ (n m c : Nat) (acc : Int32), c + n = 25 → gX12_beating_4 (m + n + 1) M 55 acc (nI c) = gX12_beating_29 FU M 55 (aMost (hM M) n c acc) 0 := by
  intro n
  induction n with
  | zero =>
    intro m c acc hc
    have : c = 25 := by omega
    subst this
    rw [gX12_beating_4_s, if_pos (by decide)]
    rfl
  | succ n ih =>
    intro m c acc hc
    rw [show m + (n + 1) + 1 = (m + n + 1) + 1 by omega, gX12_beating_4_s, if_neg (ge25 (by omega))]
    simp only [k_55 h, r_55_0 h, k_56 h, g_56 h, ck_t, rb_s, inb_n (show c < 25 by omega) (by decide), tn (show c < 1000000 by omega), nI_1, hM_0 (show c < 25 by omega)]
    unfold aMost
    exact ih m (c + 1) _ (by omega)
theorem p_mbeating {M : Mem} {b : Nat} {lw : Law} (h : Sh M) (hq : Mq M lw (nI b)) (hb : b ≤ 99) (hw : Hw (hM M)) : fX12_beating M 55 = some (aBeat (nI b) (hM M), M) := by
  obtain ⟨m, hm⟩ := FUs 25 (by decide)
  have := p_mbeatL h 25 m 0 0 rfl
  rw [← hm] at this
  obtain ⟨w, hw9, ew⟩ := aMost_in hw 25 0 0 rfl ⟨0, by omega, rfl⟩
  show gX12_beating_4 FU M 55 0 0 = _
  rw [show (0 : Int32) = nI 0 from rfl] at *
  rw [this]
  unfold aBeat
  rw [show (0 : Int32) = nI 0 from rfl, ew]
  by_cases b0 : b = 0
  · subst b0
    obtain ⟨m', hm'⟩ := FUs 100 (by decide)
    rw [hm', p_beatN h hq hw9 100 m' 0 rfl, if_pos rfl]
  · rw [if_neg (by rw [eqL (by omega) (by omega)]; exact b0)]
    obtain ⟨m', hm'⟩ := FUs (w + 1 - b) (by omega)
    rw [hm', p_beatL h hq hw9 hb b0 (w + 1 - b) m' 0 (by omega), Nat.zero_add]
    have hh : ∀ w, w < 100 → ∀ b, b < 100 → (if nI 0 < nI w - nI b + 1 then nI w - nI b + 1 else nI 0) = nI (w + 1 - b) := by decide +kernel
    rw [hh w (by omega) b (by omega)]
set_option maxHeartbeats 1000000 in
theorem m_told {M : Mem} {n : Nat} (h : Inv M n) (y : Int32) : Ok1 (fun M => fX11_told M 0 y) (fun M => fX12_told M 55 y) M := by
  obtain ⟨s, lw, bd, o⟩ := Op_of h
  have hS := o.1
  have eH := o.2.2.2.2.1
  have oS := Op_Sq o
  have oM := Op_Mq o
  have hw : Hw (hM M) := o.2.2.2.2.2.1.1.2.2.1
  have nc : ∀ k : Int32, k = 0 ∨ k = 1 ∨ k = 2 ∨ k = 3 ∨ k = 4 → ∀ M, fX12_isCell M (k - 10) = some (0, M) := by
    intro k hk M
    have : k - 10 < 0 := by rcases hk with rfl | rfl | rfl | rfl | rfl <;> decide
    unfold fX12_isCell
    rw [wi_0 this, bd_s]
    rfl
  by_cases y0 : y = 0
  · refine Ok_m h (a := mI M 55 7) ?_ ?_
    · simp only [fX11_told, y0, if_true, k_0 hS, r_0_0 hS, k_31 hS, ck_t, rb_s, cm_h eH]
    · simp only [fX12_told, nc 0 (by simp), bd_s, if_true, y0, k_55 hS, ck_t]
  by_cases y1 : y = 1
  · refine Ok_m h (a := nI bd) ?_ ?_
    · simp only [fX11_told, y0, y1, if_true, if_false, show ¬ (1 : Int32) = 0 by decide, k_0 hS, r_0_0 hS, k_31 hS, o.2.1, oS.1, oS.2.1, ck_t, rb_s]
    · simp only [fX12_told, nc 1 (by simp), bd_s, if_true, y1, show ¬ (1 : Int32) = 0 by decide, if_false, k_55 hS, ck_t, (oM.2 M Sm_r).1]
  by_cases y2 : y = 2
  · refine Ok_m h (a := aBald (nI bd) (hM M) 25 0 0) ?_ ?_
    · simp only [fX11_told, y2, if_true, if_false, show ¬ (2 : Int32) = 0 by decide, show ¬ (2 : Int32) = 1 by decide, k_0 hS, r_0_0 hS, k_31 hS, ck_t, rb_s, bd_s, p_countBald (Hl_31 hS) o.2.1 oS, eH]
    · simp only [fX12_told, nc 2 (by simp), bd_s, if_true, y2, show ¬ (2 : Int32) = 0 by decide, show ¬ (2 : Int32) = 1 by decide, if_false, k_55 hS, ck_t, p_mbalds hS oM]
  by_cases y3 : y = 3
  · refine Ok_m h (a := aWear (hM M) 25 0 0) ?_ ?_
    · simp only [fX11_told, y3, if_true, if_false, show ¬ (3 : Int32) = 0 by decide, show ¬ (3 : Int32) = 1 by decide, show ¬ (3 : Int32) = 2 by decide, k_0 hS, r_0_0 hS, k_31 hS, ck_t, rb_s, bd_s, p_wearOfAll (Hl_31 hS), eH]
    · simp only [fX12_told, nc 3 (by simp), bd_s, if_true, y3, show ¬ (3 : Int32) = 0 by decide, show ¬ (3 : Int32) = 1 by decide, show ¬ (3 : Int32) = 2 by decide, if_false, k_55 hS, ck_t, p_mallWear hS]
  by_cases y4 : y = 4
  · refine Ok_m h (a := aBeat (nI bd) (hM M)) ?_ ?_
    · simp only [fX11_told, y4, if_true, if_false, show ¬ (4 : Int32) = 0 by decide, show ¬ (4 : Int32) = 1 by decide, show ¬ (4 : Int32) = 2 by decide, show ¬ (4 : Int32) = 3 by decide, k_0 hS, r_0_0 hS, k_31 hS, ck_t, rb_s, bd_s, p_beating (Hl_31 hS) o.2.1 oS, eH]
    · simp only [fX12_told, nc 4 (by simp), bd_s, if_true, y4, show ¬ (4 : Int32) = 0 by decide, show ¬ (4 : Int32) = 1 by decide, show ¬ (4 : Int32) = 2 by decide, show ¬ (4 : Int32) = 3 by decide, if_false, k_55 hS, ck_t, p_mbeating hS oM o.2.2.2.2.2.2 hw]
  rcases cs_cell (y - 10) with ⟨c, hc, ec, d1, d2⟩ | ⟨d1, d2⟩
  · rw [ec] at d1 d2
    refine Ok_m h (a := mI M 56 c) ?_ ?_
    · simp only [fX11_told, y0, y1, y2, y3, y4, if_false, d1, bd_s, show ¬ (1 : Int32) = 0 by decide, k_0 hS, r_0_0 hS, k_31 hS, r_31_3 hS, k_32 hS, g_32 hS, ec, ck_t, rb_s, inb_n hc (by decide : 25 < 1000000), tn (show c < 1000000 by omega), cm_0 eH hc]
    · simp only [fX12_told, d2, bd_s, show ¬ (1 : Int32) = 0 by decide, if_false, k_55 hS, r_55_0 hS, k_56 hS, g_56 hS, ec, ck_t, rb_s, inb_n hc (by decide : 25 < 1000000), tn (show c < 1000000 by omega)]
  · refine Ok_m h (a := -1) ?_ ?_
    · simp only [fX11_told, y0, y1, y2, y3, y4, if_false, d1, bd_s, if_true]
    · simp only [fX12_told, d2, bd_s, if_true, y0, y1, y2, y3, y4, if_false]
/-! ===== pass ===== -/
theorem aGo_k {lw : Law} {bd : Int32} {H : Hall} {p k : Nat} (hk : k ≠ 0 ∧ k ≠ 3) : aGo lw bd H p k = H k := by
  unfold aGo
  split
  · funext i
    simp [up2, hk.1, hk.2]
  · rfl
theorem aAll_k {lw : Law} {bd : Int32} {k : Nat} (hk : k ≠ 0 ∧ k ≠ 3) : ∀ (n p : Nat) (H : Hall), aAll lw bd n p H k = H k := by
  intro n
  induction n with
  | zero => intro p H; rfl
  | succ n ih =>
    intro p H
    show aAll lw bd n (p + 1) (aGo lw bd H p) k = H k
    rw [ih, aGo_k hk]
theorem aSpring_k {k : Nat} (hk : k ≠ 0) : ∀ (n c : Nat) (H : Hall), aSpring n c H k = H k := by
  intro n
  induction n with
  | zero => intro p H; rfl
  | succ n ih =>
    intro c H
    show aSpring n (c + 1) _ k = H k
    rw [ih]
    funext i
    simp [up2, hk]
theorem aHour_k {lw : Law} {bd : Int32} {H : Hall} {k : Nat} (hk : k ≠ 0 ∧ k ≠ 3 ∧ k ≠ 6) : aHour lw bd H k = H k := by
  unfold aHour aTick
  split
  · rw [aSpring_k hk.1]
    funext i
    simp [up2, hk.2.2, aAll_k ⟨hk.1, hk.2.1⟩]
  · funext i
    simp [up2, hk.2.2, aAll_k ⟨hk.1, hk.2.1⟩]
theorem aHours_k {lw : Law} {bd : Int32} {k : Nat} (hk : k ≠ 0 ∧ k ≠ 3 ∧ k ≠ 6) : ∀ (n : Nat) (H : Hall), aHours lw bd n H k = H k := by
  intro n
  induction n with
  | zero => intro H; rfl
  | succ n ih =>
    intro H
    show aHours lw bd n (aHour lw bd H) k = H k
    rw [ih, aHour_k hk]
theorem p_mpassL {lw : Law} {bd0 : Int32} : ∀ (n m i b : Nat) (M : Mem), Sh M → Mq M lw bd0 → Hb b (hM M) → b + n ≤ 20000 → i + n ≤ 1000 →
    ∃ N, gX12_pass_30 (m + n + 1) M 55 (nI (i + n)) (nI i) = some (hM N 6 0, N) ∧ Fm M N ∧ hM N = aHours lw bd0 n (hM M) := by
  intro n
  induction n with
  | zero =>
    intro m i b M h hq hH hb hi
    refine ⟨M, ?_, Fm_r, rfl⟩
    rw [gX12_pass_30_s, if_pos (by rw [leL (by omega) (by omega)]; omega), k_55 h, ck_t]
    rfl
  | succ n ih =>
    intro m i b M h hq hH hb hi
    obtain ⟨N, k1, k2, k3⟩ := p_mhour h hq hH.1
    obtain ⟨P, p1, p2, p3⟩ := ih m (i + 1) (b + 1) N (Fm_Sh k2 h) (Fm_Mq k2 hq) (by rw [k3]; exact (Hb_hour hH (by omega)).1) (by omega) (by omega)
    refine ⟨P, ?_, Fm_t k2 p2, ?_⟩
    · rw [show m + (n + 1) + 1 = (m + n + 1) + 1 by omega, gX12_pass_30_s, if_neg (by rw [leL (by omega) (by omega)]; omega), k_55 h, ck_t, k1, bd_s, nI_1, show i + (n + 1) = i + 1 + n by omega]
      exact p1
    · rw [p3, k3]
      rfl
theorem Op_frame {M N : Mem} {s : Nat} {lw : Law} {bd : Nat} (o : Op M s lw bd) (f : Fr M N 31) : Sh N ∧ Mq N lw (nI bd) ∧ hM N = hM M := by
  have hS := Sh_1 f.1 o.1
  refine ⟨hS, ?_, ?_⟩
  · have e15 : mI N 55 15 = mI M 55 15 := congrFun (f.2.2 55 (by omega)) 15
    refine Mq_h hS rfl ?_
    rw [e15]
    exact Mqh_c o.2.2.2.1 (congrFun (f.2.2 55 (by omega)) 14) (congrFun (f.2.2 55 (by omega)) 22) (fun a ha => f.2.2 a (by omega))
  · rw [hM_hV, hM_hV]
    exact hV_eq (fun j hj => by
      have := src_row j hj
      exact congrFun (f.2.2 _ (by omega)) _)
theorem m_pass {M : Mem} {n : Nat} (h : Inv M n) (x : Int32) : Ok1 (fun M => fX11_pass M 0 x) (fun M => fX12_pass M 55 x) M := by
  obtain ⟨s, lw, bd, o⟩ := Op_of h
  have hS := o.1
  have eH := o.2.2.2.2.1
  rcases rng (L := 61) (K := 60) (n := 61) x rfl rfl (by decide) with ⟨k, hk, rfl, h1, h2, h3, h4, h5⟩ | h1 | ⟨h1, h2, h3, h4, h5⟩
  · obtain ⟨hB, hh, hl, eh⟩ := o.2.2.2.2.2.1
    have eh' : mI M 55 7 = nI hh := eh
    by_cases hc : hh + k ≤ 9999
    · have le1 : nI hh + nI k ≤ 9999 := by
        rw [nI_add, show (9999 : Int32) = nI 9999 from rfl, leL (by omega) (by omega)]
        exact hc
      obtain ⟨N, n1, n2, n3⟩ := p_goHours (s := s) (lw := lw) (bd0 := nI bd) (n := k) (b := hh) (Or.inl rfl) (Hl_31 hS) (Kd_s hS) o.2.1 (Op_Sq o) (by rw [eH]; exact ⟨hB, hh, Nat.le_refl _, eh⟩) (by omega) (by omega)
      obtain ⟨hS2, hq2, eM2⟩ := Op_frame o n2
      obtain ⟨m, hm⟩ := FUs k (by omega)
      obtain ⟨P, p1, p2, p3⟩ := p_mpassL (lw := lw) (bd0 := nI bd) k m 0 hh N hS2 hq2 (by rw [eM2]; exact ⟨hB, hh, Nat.le_refl _, eh⟩) (by omega) (by omega)
      rw [← hm, Nat.zero_add] at p1
      rw [eH] at n3
      rw [eM2] at p3
      have ePN : hC P 31 = hC N 31 := hC_c (fun b b1 b2 => p2.2.2.1 b (by omega))
      obtain ⟨b1, b2⟩ := Hb_hours (lw := lw) (bd := nI bd) k hh (hM M) ⟨hB, hh, Nat.le_refl _, eh⟩ (by omega)
      refine ⟨hM P 6 0, N, P, n, k_55 (Sh_1 n2.1 hS), ?_, ?_, Inv_h h (p2.1.trans n2.1) (p2.2.1.trans n2.2.1) (fun b b1 b2 b3 => (p2.2.2.1 b (by omega)).trans (n2.2.2 b (by omega))) (fun f f1 f2 => (p2.2.2.2 f f2).trans (congrFun (n2.2.2 55 (by omega)) f)) (by rw [ePN, n3, p3]) (by rw [p3]; exact ⟨b1.1, by obtain ⟨g, g1, g2⟩ := b1.2; exact ⟨g, by omega, g2⟩⟩) ?_⟩
      · have e6 : mI N 31 2 = hM P 6 0 := by
          rw [p3, ← n3]
          rfl
        have hk0 := k_0 hS2
        simp only [fX11_pass, h1, if_false, h4, if_true, k_0 hS, r_0_0 hS, k_31 hS, ck_t, rb_s, cm_h eH, eh', le1, n1, bd_s, hk0, r_0_0 hS2, k_31 hS2, e6]
      · have e7 : mI N 55 7 = nI hh := by
          show hM N 6 0 = _
          rw [eM2]
          exact eh
        simp only [fX12_pass, wi_1 (L := 61) h1 h5, bd_s, show ¬ (1 : Int32) = 0 by decide, if_false, k_55 hS2, ck_t, e7, le1, if_true]
        exact p1
      · rw [p3]
        obtain ⟨z, z1, z2, z3⟩ := Inv_Hz h
        refine ⟨z, z1, b2.trans z2, fun r r1 r2 => ?_⟩
        rw [aHours_k (by decide), aHours_k (by decide)]
        exact z3 r r1 r2
    · have le1 : ¬ nI hh + nI k ≤ 9999 := by
        rw [nI_add, show (9999 : Int32) = nI 9999 from rfl, leL (by omega) (by omega)]
        exact hc
      refine Ok_m h (a := -3) ?_ ?_
      · simp only [fX11_pass, h1, if_false, h4, if_true, k_0 hS, r_0_0 hS, k_31 hS, ck_t, rb_s, cm_h eH, eh', le1]
      · simp only [fX12_pass, wi_1 (L := 61) h1 h5, bd_s, show ¬ (1 : Int32) = 0 by decide, if_false, k_55 hS, ck_t, eh', le1]
  · refine Ok_m h (a := -2) ?_ ?_
    · simp only [fX11_pass, h1, if_true]
    · simp only [fX12_pass, wi_0 h1, bd_s, if_true]
  · refine Ok_m h (a := -2) ?_ ?_
    · simp only [fX11_pass, h1, h4, if_false]
    · simp only [fX12_pass, wi_2 h5, bd_s, if_true]
