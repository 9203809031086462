/-! ===== class: pull ===== -/
theorem tl0 : (0 : Int32).toNatClampNeg = 0 := rfl
theorem tl1 : (1 : Int32).toNatClampNeg = 1 := rfl
theorem tl2 : (2 : Int32).toNatClampNeg = 2 := rfl
theorem tl3 : (3 : Int32).toNatClampNeg = 3 := rfl
theorem tl4 : (4 : Int32).toNatClampNeg = 4 := rfl
theorem tl5 : (5 : Int32).toNatClampNeg = 5 := rfl
theorem tl6 : (6 : Int32).toNatClampNeg = 6 := rfl
theorem tl24 : (24 : Int32).toNatClampNeg = 24 := rfl
theorem tl25 : (25 : Int32).toNatClampNeg = 25 := rfl
theorem ib0 : inb (0 : Int32) 6 = true := by decide
theorem ib1 : inb (1 : Int32) 6 = true := by decide
theorem ib2 : inb (2 : Int32) 6 = true := by decide
theorem ib3 : inb (3 : Int32) 6 = true := by decide
theorem ib4 : inb (4 : Int32) 6 = true := by decide
theorem ib5 : inb (5 : Int32) 6 = true := by decide
/-- the facts' row as it is filled -/
def fF (M : Mem) (o p c : Nat) : Nat → Int32 := upd (upd (upd (upd (upd (upd (mI M (o + 7)) 0 (nI p)) 1 (mI M (o + 2) p)) 2 (mI M (o + 3) p)) 3 (nI c)) 4 (mI M (o + 1) c / 10)) 5 (aRem (mI M o 2) 10)
theorem fF_aF {M : Mem} {o p c : Nat} (hp : p < 6) (hc : c < 25) : ∀ k, k < 6 → fF M o p c k = aF (hC M o) p c k := by
  intro k hk
  have e1 : hC M o 1 p = mI M (o + 2) p := hx_arr (b := o + 1) (k := 1) (by decide) hp
  have e2 : hC M o 2 p = mI M (o + 3) p := hx_arr (b := o + 1) (k := 2) (by decide) hp
  have e3 : hC M o 0 c = mI M (o + 1) c := hx_arr (b := o + 1) (k := 0) (by decide) hc
  have e4 : hC M o 6 0 = mI M o 2 := rfl
  unfold aF
  rw [e1, e2, e3, e4]
  rcases (show k = 0 ∨ k = 1 ∨ k = 2 ∨ k = 3 ∨ k = 4 ∨ k = 5 by omega) with rfl | rfl | rfl | rfl | rfl | rfl <;> simp [fF, upd]
theorem p_vt {M : Mem} {o p c k : Nat} {x : Int32} (h : Hl M o) (hk : Kd M) (hH : Hok (hC M o)) (hp : p < 6) (hc : c < 25) (hk6 : k ≤ 6) (ek : hC M o 1 p = nI k) :
    vt10_pullBy M (22 + k) x o (nI p) (nI c) = some (if hC M o 1 p = 2 then -x else if hC M o 1 p = 3 then aKn (hC M o) x else if hC M o 1 p = 4 then (if aRem (nI c) 2 = 0 then x + hC M o 2 p else x) else if hC M o 1 p = 5 then (if nI c = nxt (hC M o 3 p) 1 then -x + 20 else -x) else if hC M o 1 p = 6 then aKn (hC M o) x + hC M o 5 (nI p * 4 + aRem (hC M o 6 0) 4).toNatClampNeg else x, M) := by
  obtain ⟨h0, h1, h2, h3, h4, h5, h6, h7, h8, h9, h10, h11, h12, h13, h14, h15, h16, h17, h18, h19, h20, h21, h22⟩ := h
  obtain ⟨k0, k1, k2, ⟨-, k3⟩, ⟨-, k4⟩, ⟨-, k5⟩, ⟨-, k6⟩, ⟨-, k7⟩, ⟨-, k8⟩, ⟨-, k9⟩⟩ := hk
  obtain ⟨hn, ⟨hr, hr2, er⟩, -⟩ := hH
  have e2 : hC M o 2 p = mI M (o + 3) p := hx_arr (b := o + 1) (k := 2) (by decide) hp
  have e3 : hC M o 3 p = mI M (o + 4) p := hx_arr (b := o + 1) (k := 3) (by decide) hp
  have e6 : hC M o 6 0 = mI M o 2 := rfl
  have hrow : (nI p * 4 + aRem (mI M o 2) 4) = nI (p * 4 + hr % 4) ∧ p * 4 + hr % 4 < 24 := by
    rw [← e6, er]
    have e : aRem (nI hr) 4 = nI (hr % 4) := pk_rem (d := 4) (by omega) (by decide) (by decide)
    rw [e, show (4 : Int32) = nI 4 from rfl, pk_mul, nI_add]
    exact ⟨rfl, by omega⟩
  have e5 : hC M o 5 (nI p * 4 + aRem (mI M o 2) 4).toNatClampNeg = mI M (o + 6) (nI p * 4 + aRem (mI M o 2) 4).toNatClampNeg := by
    rw [hrow.1, tn (by omega)]
    exact hx_arr (b := o + 1) (k := 5) (by decide) hrow.2
  have hin : inb (nI p * 4 + aRem (mI M o 2) 4) 24 = true := by
    rw [hrow.1]
    exact inb_n hrow.2 (by decide)
  have ip := inb_n hp (by decide : 6 < 1000000)
  have tp := tn (show p < 1000000 by omega)
  have hlt : 22 + k < mN M := by omega
  rw [ek, e2, e3, e6, e5]
  unfold aKn
  rw [e6]
  have W : ∀ q, q = 22 + k → isW M q = true := by
    intro q hq
    subst hq
    have : mK M (22 + k) = 0 ∨ mK M (22 + k) = 2 ∨ mK M (22 + k) = 4 ∨ mK M (22 + k) = 6 ∨ mK M (22 + k) = 8 ∨ mK M (22 + k) = 9 ∨ mK M (22 + k) = 10 := by
      rcases (show k = 0 ∨ k = 1 ∨ k = 2 ∨ k = 3 ∨ k = 4 ∨ k = 5 ∨ k = 6 by omega) with rfl | rfl | rfl | rfl | rfl | rfl | rfl <;> simp [k3, k4, k5, k6, k7, k8, k9]
    simp [isW, hlt, this]
  have hW := W (22 + k) rfl
  have hin' : inb (nI p * 4 + (mI M o 2 - mI M o 2 / 4 * 4)) 24 = true := hin
  unfold vt10_pullBy
  rw [show decide (22 + k < mN M) = true from decide_eq_true hlt, ck_t]
  rcases (show k = 0 ∨ k = 1 ∨ k = 2 ∨ k = 3 ∨ k = 4 ∨ k = 5 ∨ k = 6 by omega) with rfl | rfl | rfl | rfl | rfl | rfl | rfl
  · simp only [Nat.add_zero, k3] at hW ⊢
    simp [fX10_pullBy, show ¬ nI 0 = 2 by decide, show ¬ nI 0 = 3 by decide, show ¬ nI 0 = 4 by decide, show ¬ nI 0 = 5 by decide, show ¬ nI 0 = 6 by decide]
  · simp only [show 22 + 1 = 23 from rfl, k4] at hW ⊢
    simp [fX10_pullBy, show ¬ nI 1 = 2 by decide, show ¬ nI 1 = 3 by decide, show ¬ nI 1 = 4 by decide, show ¬ nI 1 = 5 by decide, show ¬ nI 1 = 6 by decide]
  · simp only [show 22 + 2 = 24 from rfl, k5] at hW ⊢
    simp [fX6_pullBy, show nI 2 = 2 by decide]
  · simp only [show 22 + 3 = 25 from rfl, k6] at hW ⊢
    simp only [fX4_pullBy, h0, ck_t, show ¬ nI 3 = 2 by decide, show nI 3 = 3 by decide, if_true, if_false, aRem]
    simp
    split <;> rename_i hh <;> simp [hh, bd_s]
  · simp only [show 22 + 4 = 26 from rfl, k7] at hW ⊢
    simp only [fX2_pullBy, h0, h4, h13, h14, ip, tp, ck_t, rb_s, show ¬ nI 4 = 2 by decide, show ¬ nI 4 = 3 by decide, show nI 4 = 4 by decide, if_true, if_false, aRem]
    simp
    split <;> rename_i hh <;> simp [hh, bd_s]
  · simp only [show 22 + 5 = 27 from rfl, k8] at hW ⊢
    simp only [fX0_pullBy, fX6_pullBy, bd_s, hW, h0, h5, h15, h16, ip, tp, ck_t, rb_s, p_nextTo, show ¬ nI 5 = 2 by decide, show ¬ nI 5 = 3 by decide, show ¬ nI 5 = 4 by decide, show nI 5 = 5 by decide, if_true, if_false]
    simp
    split <;> rename_i hh <;> simp [hh, bd_s]
  · simp only [show 22 + 6 = 28 from rfl, k9] at hW ⊢
    simp only [fX8_pullBy, fX4_pullBy, bd_s, hW, h0, h7, h19, h20, hin', ck_t, rb_s, show ¬ nI 6 = 2 by decide, show ¬ nI 6 = 3 by decide, show ¬ nI 6 = 4 by decide, show ¬ nI 6 = 5 by decide, show nI 6 = 6 by decide, if_true, if_false, aRem]
    simp
    split <;> rename_i hh <;> simp [hh, bd_s]
