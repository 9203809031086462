theorem Sq_wF {M : Mem} {s a : Nat} {lw : Law} {bd : Int32} (hq : Sq M s lw bd) (ha : 31 ≤ a ∧ a < 85) (F : Nat → Int32) : Sq (wF M a F) s lw bd := by
  obtain ⟨q1, q2, q3, st, q4, q5, q6, q7⟩ := hq
  refine ⟨q1, by rw [mI_wF, if_neg (by omega)]; exact q2, q3, st, q4, q5, q6, fun I f h1 h2 h3 h4 => q7 I f (h1.trans (va_up_ne _ _ (by omega))) (h2.trans (va_up_ne _ _ (by omega))) h3 h4⟩
theorem Sq_stI {M : Mem} {s a i : Nat} {x : Int32} {lw : Law} {bd : Int32} (hq : Sq M s lw bd) (ha : 31 ≤ a ∧ a < 85) : Sq (stI M a i x) s lw bd := by
  rw [stI_row_eq]
  exact Sq_wF hq ha _
theorem ge4 {i : Nat} (h : i < 4) : ¬ (4 : Int32) ≤ nI i := by
  rw [show (4 : Int32) = nI 4 from rfl, leL (by omega) (by omega)]
  omega
set_option maxHeartbeats 2000000 in
theorem p_sendsL {M : Mem} {o s p : Nat} {lw : Law} {bd0 : Int32} (h : Hl M o) (hk : Kd M) (hs : mR M o 1 = some s) (hq : Sq M s lw bd0) (ho : o = 31 ∨ o = 39) (hH : Hok (hC M o)) (hp : p < 6) :
    ∀ (n m side : Nat) (F : Nat → Int32) (best most stays : Int32), side + n = 4 → ∃ G, gX3_sends_15 (m + n + 1) (wF M (o + 7) F) o (nI p) best most stays (nI side) = some (aSentL lw bd0 (hC M o) p n side best most stays, wF M (o + 7) G) := by
  intro n
  induction n with
  | zero =>
    intro m side F best most stays hn
    have : side = 4 := by omega
    subst this
    refine ⟨F, ?_⟩
    rw [gX3_sends_15_s, if_pos (by decide)]
    rfl
  | succ n ih =>
    intro m side F best most stays hn
    obtain ⟨h0, h1, h2, h3, h4, h5, h6, h7, h8, h9, h10, h11, h12, h13, h14, h15, h16, h17, h18, h19, h20, h21, h22⟩ := id h
    obtain ⟨c, hc, ec⟩ := hH.2.2.2.2.1 p hp
    have ip := inb_n hp (by decide : 6 < 1000000)
    have tp := tn (show p < 1000000 by omega)
    have hH2 : ∀ F, hC (wF M (o + 7) F) o = hC M o := fun F => hx_wF (Or.inr (by omega)) (by omega)
    have e3 : mI (wF M (o + 7) F) (o + 4) p = hC M o 3 p := by
      rw [mI_wF, if_neg (by omega)]
      exact (hx_arr (b := o + 1) (k := 3) (by decide) hp).symm
    have ha : 31 ≤ o + 7 ∧ o + 7 < 85 := by omega
    have hs1 : (nI side + 1 : Int32) = nI (side + 1) := nI_1 side
    rw [show m + (n + 1) + 1 = (m + n + 1) + 1 by omega, gX3_sends_15_s, if_neg (ge4 (by omega))]
    simp only [isK_wF, mR_wF, mG_wF, h0, h5, h15, h16, ip, tp, ck_t, rb_s, p_nextTo, bd_s, e3]
    unfold aSentL
    rcases nxt_in c hc side (by omega) with hx | ⟨d, hd, hdc, hx⟩
    · rw [ec, hx]
      simp only [if_true]
      unfold gX3_sends_81
      rw [hs1]
      exact ih m (side + 1) F best most stays (by omega)
    · rw [ec, hx, if_neg (m1_ne (by omega)), if_neg (m1_ne (by omega))]
      rw [p_isBald (M := wF M (o + 7) F) (lw := lw) (bd := bd0) h hs (Sq_wF hq ha F) hd, bd_s, hH2, tn (show d < 1000000 by omega)]
      by_cases hb : hC M o 0 d < bd0
      · simp only [hb, if_true]
        rw [p_pullOn (M := wF M (o + 7) F) (lw := lw) (bd0 := bd0) h hk hs (Sq_wF hq ha F) ho (by rw [hH2]; exact hH) hp hd, bd_s, hH2, wF_wF]
        by_cases g4 : stays = 0
        · simp only [g4, if_true, isK_wF, h0, ck_t]
          by_cases g5 : aPull lw (hC M o) p d ≤ most
          · simp only [g5, if_true]
            unfold gX3_sends_81
            rw [hs1]
            exact ih m (side + 1) _ best most 0 (by omega)
          · simp only [g5, if_false]
            unfold gX3_sends_72 gX3_sends_81
            rw [hs1]
            exact ih m (side + 1) _ (nI d) _ 0 (by omega)
        · simp only [g4, if_false, isK_wF, h0, ck_t]
          unfold gX3_sends_72 gX3_sends_81
          rw [hs1]
          exact ih m (side + 1) _ (nI d) _ 0 (by omega)
      · simp only [hb, if_false]
        rw [if_neg (by decide)]
        unfold gX3_sends_81
        rw [hs1]
        exact ih m (side + 1) F best most stays (by omega)
theorem p_sends {M : Mem} {o s p : Nat} {lw : Law} {bd0 : Int32} (h : Hl M o) (hk : Kd M) (hs : mR M o 1 = some s) (hq : Sq M s lw bd0) (ho : o = 31 ∨ o = 39) (hH : Hok (hC M o)) (hp : p < 6) :
    ∃ G, fX3_sends M o (nI p) = some (aSent lw bd0 (hC M o) p, wF M (o + 7) G) := by
  obtain ⟨h0, h1, h2, h3, h4, h5, h6, h7, h8, h9, h10, h11, h12, h13, h14, h15, h16, h17, h18, h19, h20, h21, h22⟩ := id h
  obtain ⟨m, hm⟩ := FUs 4 (by decide)
  obtain ⟨G, hG⟩ := p_sendsL h hk hs hq ho hH hp 4 m 0 (mI M (o + 7)) (hC M o 3 p) 0 1 rfl
  refine ⟨G, ?_⟩
  have e3 : mI M (o + 4) p = hC M o 3 p := (hx_arr (b := o + 1) (k := 3) (by decide) hp).symm
  rw [wF_self, ← hm] at hG
  unfold fX3_sends aSent
  simp only [h0, h5, h15, h16, inb_n hp (by decide : 6 < 1000000), tn (show p < 1000000 by omega), ck_t, rb_s, e3]
  exact hG
/-- one who goes comes to a cell -/
theorem aSentL_in {lw : Law} {bd : Int32} {H : Hall} {p c : Nat} (hc : c < 25) (ec : H 3 p = nI c) : ∀ (n side : Nat) (best most stays : Int32), side + n = 4 → (∃ d, d < 25 ∧ best = nI d) → ∃ d, d < 25 ∧ aSentL lw bd H p n side best most stays = nI d := by
  intro n
  induction n with
  | zero => intro side best most stays _ h; exact h
  | succ n ih =>
    intro side best most stays hn hb
    unfold aSentL
    rcases nxt_in c hc side (by omega) with hx | ⟨d, hd, hdc, hx⟩
    · rw [ec, hx, if_pos rfl]
      exact ih _ _ _ _ (by omega) hb
    · rw [ec, hx, if_neg (m1_ne (by omega))]
      split
      · split
        · split
          · exact ih _ _ _ _ (by omega) hb
          · exact ih _ _ _ _ (by omega) ⟨d, hd, rfl⟩
        · exact ih _ _ _ _ (by omega) ⟨d, hd, rfl⟩
      · exact ih _ _ _ _ (by omega) hb
theorem aSent_in {lw : Law} {bd : Int32} {H : Hall} {p : Nat} (hH : Hok H) (hp : p < 6) : ∃ d, d < 25 ∧ aSent lw bd H p = nI d := by
  obtain ⟨c, hc, ec⟩ := hH.2.2.2.2.1 p hp
  exact aSentL_in hc ec 4 0 _ _ _ rfl ⟨c, hc, ec⟩
