theorem Sq_go {M : Mem} {s o : Nat} {lw : Law} {bd : Int32} (hq : Sq M s lw bd) (ho : o = 31 ∨ o = 39) (F : Nat → Int32) (hf : isK M (o + 7) 14 = true) (hg : mG M (o + 7) = 6) : fX7_drawsBy (wF M (o + 7) F) s (o + 7) = some (lw F, wF M (o + 7) F) := by
  obtain ⟨-, -, -, st, -, h1, h2, h⟩ := hq
  have := h (va_up M.2.1 (o + 7) F) (o + 7) (va_up_ne _ _ (by omega)) (va_up_ne _ _ (by omega)) hf hg
  rw [va_up_self] at this
  exact this
set_option maxHeartbeats 2000000 in
theorem p_pullOn {M : Mem} {o s p c : Nat} {lw : Law} {bd0 : Int32} (h : Hl M o) (hk : Kd M) (hs : mR M o 1 = some s) (hq : Sq M s lw bd0) (ho : o = 31 ∨ o = 39) (hH : Hok (hC M o)) (hp : p < 6) (hc : c < 25) : fX3_pullOn M o (nI p) (nI c) = some (aPull lw (hC M o) p c, wF M (o + 7) (fF M o p c)) := by
  have h' := h
  obtain ⟨h0, h1, h2, h3, h4, h5, h6, h7, h8, h9, h10, h11, h12, h13, h14, h15, h16, h17, h18, h19, h20, h21, h22⟩ := h
  obtain ⟨k, hk6, ek⟩ := hH.2.2.2.1 p hp
  have ip := inb_n hp (by decide : 6 < 1000000)
  have tp := tn (show p < 1000000 by omega)
  have ic := inb_n hc (by decide : 25 < 1000000)
  have tc := tn (show c < 1000000 by omega)
  have n1 : ¬ o + 2 = o + 7 := by omega
  have n2 : ¬ o + 3 = o + 7 := by omega
  have n3 : ¬ o + 1 = o + 7 := by omega
  have n4 : ¬ o = o + 7 := by omega
  have eF : fF M o p c = upd (upd (upd (upd (upd (upd (mI M (o + 7)) 0 (nI p)) 1 (mI M (o + 2) p)) 2 (mI M (o + 3) p)) 3 (nI c)) 4 (mI M (o + 1) c / 10)) 5 (mI M o 2 - mI M o 2 / 10 * 10) := rfl
  have key : fX3_pullOn M o (nI p) (nI c) = bd (fX3_kindOf (wF M (o + 7) (fF M o p c)) o (nI p)) fun x27 M27 => ck (isK M27 o 3) <| rb (mR M27 o 3) fun b29 => ck (isK M27 b29 14) <| ck (inb (nI c) (mG M27 b29)) <| rb (mR M27 o 1) fun b32 => rb (mR M27 o 10) fun b33 => ck (isK M27 b32 7) <| bd (fX7_drawsBy M27 b32 b33) fun x35 M35 => bd (vt10_pullBy M35 x27 ((mI M27 b29 c) + x35) o (nI p) (nI c)) fun x36 M36 => some (x36, M36) := by
    rw [eF]
    simp only [fX3_pullOn, h0, h2, h3, h4, h8, h9, h10, h11, h12, h13, h14, h21, h22, ip, tp, ic, tc, ck_t, rb_s, nm_s, tl0, tl1, tl2, tl3, tl4, tl5, ib0, ib1, ib2, ib3, ib4, ib5, mR_stI, isK_stI, mG_stI, stI_row_eq M (o + 7), stI_wF, mI_wF, mR_wF, isK_wF, mG_wF, n1, n2, n3, n4, if_false]
  have hH2 : hC (wF M (o + 7) (fF M o p c)) o = hC M o := hx_wF (Or.inr (by omega)) (by omega)
  have hl2 : Hl (wF M (o + 7) (fF M o p c)) o := h'
  have hk2 : Kd (wF M (o + 7) (fF M o p c)) := hk
  have e0 : mI (wF M (o + 7) (fF M o p c)) (o + 1) c = hC M o 0 c := by
    rw [mI_wF, if_neg n3]
    exact (hx_arr (b := o + 1) (k := 0) (by decide) hc).symm
  rw [key, p_kindOf hl2 hk2 hp (by rw [hH2]; exact ek) hk6, bd_s]
  simp only [isK_wF, mR_wF, mG_wF, h0, h2, h8, h9, h10, hs, hq.1, ic, ck_t, rb_s, Sq_go hq ho _ h21 h22, bd_s, e0]
  rw [p_vt hl2 hk2 (by rw [hH2]; exact hH) hp hc hk6 (by rw [hH2]; exact ek), bd_s, hH2, hq.2.2.1 (fF M o p c) (aF (hC M o) p c) (fF_aF hp hc)]
  rfl
