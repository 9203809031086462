/-! ===== the hall's own functions, in plain words ===== -/
def aRem (x y : Int32) : Int32 := x - x / y * y
def nxt (c w : Int32) : Int32 := if w = 0 then (if c < 5 then -1 else c - 5) else if w = 1 then (if 4 ≤ aRem c 5 then -1 else c + 1) else if w = 2 then (if 20 ≤ c then -1 else c + 5) else (if aRem c 5 ≤ 0 then -1 else c - 1)
/-- the facts that a test asks for -/
def aF (H : Hall) (p c : Nat) : Nat → Int32 := fun k => if k = 0 then nI p else if k = 1 then H 1 p else if k = 2 then H 2 p else if k = 3 then nI c else if k = 4 then H 0 c / 10 else aRem (H 6 0) 10
abbrev Law : Type := (Nat → Int32) → Int32
/-- a law asks for six facts -/
def Law6 (lw : Law) : Prop := ∀ F G : Nat → Int32, (∀ k, k < 6 → F k = G k) → lw F = lw G
def aSum (lw : Law) (H : Hall) (p c : Nat) : Int32 := H 0 c + lw (aF H p c)
def aKn (H : Hall) (s : Int32) : Int32 := if aRem (H 6 0) 2 = 1 then s / 2 else s
def aPull (lw : Law) (H : Hall) (p c : Nat) : Int32 :=
  if H 1 p = 2 then -(aSum lw H p c)
  else if H 1 p = 3 then aKn H (aSum lw H p c)
  else if H 1 p = 4 then (if aRem (nI c) 2 = 0 then aSum lw H p c + H 2 p else aSum lw H p c)
  else if H 1 p = 5 then (if nI c = nxt (H 3 p) 1 then -(aSum lw H p c) + 20 else -(aSum lw H p c))
  else if H 1 p = 6 then aKn H (aSum lw H p c) + H 5 (nI p * 4 + aRem (H 6 0) 4).toNatClampNeg
  else aSum lw H p c
def aSentL (lw : Law) (bd : Int32) (H : Hall) (p : Nat) : Nat → Nat → Int32 → Int32 → Int32 → Int32
  | 0, _, best, _, _ => best
  | n + 1, side, best, most, stays =>
    if nxt (H 3 p) (nI side) = -1 then aSentL lw bd H p n (side + 1) best most stays
    else if H 0 (nxt (H 3 p) (nI side)).toNatClampNeg < bd then
      (if stays = 0 then (if aPull lw H p (nxt (H 3 p) (nI side)).toNatClampNeg ≤ most then aSentL lw bd H p n (side + 1) best most stays else aSentL lw bd H p n (side + 1) (nxt (H 3 p) (nI side)) (aPull lw H p (nxt (H 3 p) (nI side)).toNatClampNeg) 0)
       else aSentL lw bd H p n (side + 1) (nxt (H 3 p) (nI side)) (aPull lw H p (nxt (H 3 p) (nI side)).toNatClampNeg) 0)
    else aSentL lw bd H p n (side + 1) best most stays
def aSent (lw : Law) (bd : Int32) (H : Hall) (p : Nat) : Int32 := aSentL lw bd H p 4 0 (H 3 p) 0 1
def aTread (k : Int32) : Int32 := if k = 1 then 3 else if k = 4 then 3 else if k = 2 then 1 else if k = 3 then 6 else if k = 6 then 6 else 2
/-- wear n more, 99 at most -/
def aMore (w n : Int32) : Int32 := if w + n < 99 then w + n else 99
def aLess (w : Int32) : Int32 := if 0 < w - 1 then w - 1 else 0
/-- one goes -/
def aGo (lw : Law) (bd : Int32) (H : Hall) (p : Nat) : Hall := if H 4 p = 0 then up2 (up2 H 3 p (aSent lw bd H p)) 0 (aSent lw bd H p).toNatClampNeg (aMore (H 0 (aSent lw bd H p).toNatClampNeg) (aTread (H 1 p))) else H
def aAll (lw : Law) (bd : Int32) : Nat → Nat → Hall → Hall
  | 0, _, H => H
  | n + 1, p, H => aAll lw bd n (p + 1) (aGo lw bd H p)
def aSpring : Nat → Nat → Hall → Hall
  | 0, _, H => H
  | n + 1, c, H => aSpring n (c + 1) (up2 H 0 c (aLess (H 0 c)))
def aTick (H : Hall) : Hall := if aRem (H 6 0 + 1) 10 = 0 then aSpring 25 0 (up2 H 6 0 (H 6 0 + 1)) else up2 H 6 0 (H 6 0 + 1)
def aHour (lw : Law) (bd : Int32) (H : Hall) : Hall := aTick (aAll lw bd (H 6 1).toNatClampNeg 0 H)
/-- what holds of each hall -/
def Hok (H : Hall) : Prop := (∃ n, n ≤ 6 ∧ H 6 1 = nI n) ∧ (∃ h, h ≤ 20000 ∧ H 6 0 = nI h) ∧ (∀ i, i < 25 → ∃ w, w ≤ 99 ∧ H 0 i = nI w) ∧ (∀ i, i < 6 → ∃ k, k ≤ 6 ∧ H 1 i = nI k) ∧ (∀ i, i < 6 → ∃ c, c < 25 ∧ H 3 i = nI c) ∧ ∀ i, i < 6 → H 4 i = 0 ∨ H 4 i = 1
/-! ===== finite facts ===== -/
theorem nxt_in : ∀ c, c < 25 → ∀ w, w < 4 → nxt (nI c) (nI w) = -1 ∨ ∃ d, d < 25 ∧ d ≠ c ∧ nxt (nI c) (nI w) = nI d := by
  have h : ∀ c, c < 25 → ∀ w, w < 4 → nxt (nI c) (nI w) = -1 ∨ ((nxt (nI c) (nI w)).toNatClampNeg < 25 ∧ (nxt (nI c) (nI w)).toNatClampNeg ≠ c ∧ nxt (nI c) (nI w) = nI (nxt (nI c) (nI w)).toNatClampNeg) := by decide +kernel
  intro c hc w hw
  rcases h c hc w hw with h | ⟨h1, h2, h3⟩
  · exact Or.inl h
  · exact Or.inr ⟨_, h1, h2, h3⟩
theorem m1_ne {d : Nat} (h : d < 1000000) : ¬ nI d = -1 := by
  intro e
  have h1 := congrArg Int32.toInt e
  rw [nI_toInt (by omega)] at h1
  have h2 : (-1 : Int32).toInt = -1 := by decide
  omega
/-! ===== class: the hall at o ===== -/
def Hl (M : Mem) (o : Nat) : Prop :=
  isK M o 3 = true ∧ mR M o 0 = some 21 ∧ mR M o 3 = some (o + 1) ∧ mR M o 5 = some (o + 2) ∧ mR M o 6 = some (o + 3) ∧ mR M o 7 = some (o + 4) ∧ mR M o 8 = some (o + 5) ∧ mR M o 9 = some (o + 6) ∧ mR M o 10 = some (o + 7) ∧
  isK M (o + 1) 14 = true ∧ mG M (o + 1) = 25 ∧ isK M (o + 2) 14 = true ∧ mG M (o + 2) = 6 ∧ isK M (o + 3) 14 = true ∧ mG M (o + 3) = 6 ∧ isK M (o + 4) 14 = true ∧ mG M (o + 4) = 6 ∧ isK M (o + 5) 16 = true ∧ mG M (o + 5) = 6 ∧ isK M (o + 6) 14 = true ∧ mG M (o + 6) = 24 ∧ isK M (o + 7) 14 = true ∧ mG M (o + 7) = 6
/-- the people's kinds as objects -/
def Kd (M : Mem) : Prop := isK M 21 17 = true ∧ mG M 21 = 7 ∧ 29 ≤ mN M ∧ (mR M 21 0 = some 22 ∧ mK M 22 = 10) ∧ (mR M 21 1 = some 23 ∧ mK M 23 = 9) ∧ (mR M 21 2 = some 24 ∧ mK M 24 = 6) ∧ (mR M 21 3 = some 25 ∧ mK M 25 = 4) ∧ (mR M 21 4 = some 26 ∧ mK M 26 = 2) ∧ (mR M 21 5 = some 27 ∧ mK M 27 = 0) ∧ (mR M 21 6 = some 28 ∧ mK M 28 = 8)
/-- the statute s, its steps st, n of them: what it draws for the facts that lie at f -/
def Sq (M : Mem) (s : Nat) (lw : Law) (bd : Int32) : Prop := isK M s 7 = true ∧ mI M s 2 = bd ∧ Law6 lw ∧ ∃ st, mR M s 0 = some st ∧ (s < 31 ∨ 85 ≤ s) ∧ (st < 31 ∨ 85 ≤ st) ∧ ∀ (I : Mi) (f : Nat), I s = M.2.1 s → I st = M.2.1 st → isK M f 14 = true → mG M f = 6 → fX7_drawsBy (M.1, I, M.2.2) s f = some (lw (I f), (M.1, I, M.2.2))
theorem p_nextTo (M : Mem) (c w : Int32) : fX11_nextTo M c w = some (nxt c w, M) := by
  unfold fX11_nextTo nxt aRem
  repeat' split
  all_goals rfl
theorem p_isBald {M : Mem} {o s c : Nat} {lw : Law} {bd : Int32} (h : Hl M o) (hs : mR M o 1 = some s) (hq : Sq M s lw bd) (hc : c < 25) : fX3_isBald M o (nI c) = some (if hC M o 0 c < bd then 0 else 1, M) := by
  obtain ⟨h0, h1, h2, -, -, -, -, -, -, h9, h10, -⟩ := h
  have e : hC M o 0 c = mI M (o + 1) c := hx_arr (by decide) hc
  rw [e]
  simp only [fX3_isBald, h0, h2, h9, h10, hs, hq.1, hq.2.1, ck_t, rb_s, inb_n hc (by decide), tn (show c < 1000000 by omega)]
  split <;> rfl
theorem p_kindOf {M : Mem} {o p k : Nat} (h : Hl M o) (hk : Kd M) (hp : p < 6) (e : hC M o 1 p = nI k) (hk6 : k ≤ 6) : fX3_kindOf M o (nI p) = some (22 + k, M) := by
  obtain ⟨h0, h1, h2, h3, -, -, -, -, -, -, -, h11, h12, -⟩ := h
  obtain ⟨k0, k1, k2, ⟨k3, -⟩, ⟨k4, -⟩, ⟨k5, -⟩, ⟨k6, -⟩, ⟨k7, -⟩, ⟨k8, -⟩, ⟨k9, -⟩⟩ := hk
  have e1 : mI M (o + 2) p = nI k := by
    rw [← e]
    exact (hx_arr (b := o + 1) (k := 1) (by decide) hp).symm
  simp only [fX3_kindOf, h0, h1, h3, h11, h12, k0, k1, ck_t, rb_s, inb_n hp (by decide), tn (show p < 1000000 by omega), e1, inb_n (show k < 7 by omega) (by decide), tn (show k < 1000000 by omega)]
  rcases (show k = 0 ∨ k = 1 ∨ k = 2 ∨ k = 3 ∨ k = 4 ∨ k = 5 ∨ k = 6 by omega) with rfl | rfl | rfl | rfl | rfl | rfl | rfl <;> simp only [k3, k4, k5, k6, k7, k8, k9, rb_s]
