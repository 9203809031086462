/-! ===== what lies outside a hall stays ===== -/
def Fr (M N : Mem) (o : Nat) : Prop := N.1 = M.1 ∧ N.2.2 = M.2.2 ∧ ∀ a, a < o ∨ o + 8 ≤ a → N.2.1 a = M.2.1 a
theorem Fr_r {M : Mem} {o : Nat} : Fr M M o := ⟨rfl, rfl, fun _ _ => rfl⟩
theorem Fr_t {M N P : Mem} {o : Nat} (h : Fr M N o) (k : Fr N P o) : Fr M P o := ⟨k.1.trans h.1, k.2.1.trans h.2.1, fun a ha => (k.2.2 a ha).trans (h.2.2 a ha)⟩
theorem Fr_wF {M : Mem} {o a : Nat} {F : Nat → Int32} (h : o ≤ a ∧ a < o + 8) : Fr M (wF M a F) o := ⟨rfl, rfl, fun b hb => va_up_ne _ _ (by omega)⟩
theorem Fr_stI {M : Mem} {o a i : Nat} {x : Int32} (h : o ≤ a ∧ a < o + 8) : Fr M (stI M a i x) o := by
  rw [stI_row_eq]
  exact Fr_wF h
theorem Fr_Hl {M N : Mem} {o q : Nat} (h : Fr M N o) (k : Hl M q) : Hl N q := by
  unfold Hl isK mN mK mR mG at *
  rw [h.1]
  exact k
theorem Fr_Kd {M N : Mem} {o : Nat} (h : Fr M N o) (k : Kd M) : Kd N := by
  unfold Kd isK mN mK mR mG at *
  rw [h.1]
  exact k
theorem Fr_R {M N : Mem} {o a i : Nat} {r : Option Nat} (h : Fr M N o) (k : mR M a i = r) : mR N a i = r := by
  unfold mR at *
  rw [h.1]
  exact k
theorem Fr_Sq {M N : Mem} {o s : Nat} {lw : Law} {bd : Int32} (ho : 31 ≤ o ∧ o < 77) (h : Fr M N o) (hq : Sq M s lw bd) : Sq N s lw bd := by
  obtain ⟨q1, q2, q3, st, q4, q5, q6, q7⟩ := hq
  have e1 : N.2.1 s = M.2.1 s := h.2.2 s (by omega)
  have e2 : N.2.1 st = M.2.1 st := h.2.2 st (by omega)
  refine ⟨?_, ?_, q3, st, Fr_R h q4, q5, q6, ?_⟩
  · unfold isK mN mK at *
    rw [h.1]
    exact q1
  · unfold mI at *
    rw [e1]
    exact q2
  · intro I f h1 h2 h3 h4
    have := q7 I f (h1.trans e1) (h2.trans e2) (by unfold isK mN mK at *; rw [← h.1]; exact h3) (by unfold mG at *; rw [← h.1]; exact h4)
    rw [h.1, h.2.1]
    exact this
theorem p_sends' {M : Mem} {o s p : Nat} {lw : Law} {bd0 : Int32} (h : Hl M o) (hk : Kd M) (hs : mR M o 1 = some s) (hq : Sq M s lw bd0) (ho : o = 31 ∨ o = 39) (hH : Hok (hC M o)) (hp : p < 6) :
    ∃ N, fX3_sends M o (nI p) = some (aSent lw bd0 (hC M o) p, N) ∧ Fr M N o ∧ hC N o = hC M o := by
  obtain ⟨G, hG⟩ := p_sends h hk hs hq ho hH hp
  exact ⟨_, hG, Fr_wF (by omega), hx_wF (Or.inr (by omega)) (by omega)⟩
theorem p_htread {M : Mem} {o c : Nat} {x : Int32} (h : Hl M o) (hc : c < 25) : fX3_tread M o (nI c) x = some ((), stI M (o + 1) c (aMore (hC M o 0 c) x)) := by
  obtain ⟨h0, h1, h2, -, -, -, -, -, -, h9, h10, -⟩ := h
  have e : hC M o 0 c = mI M (o + 1) c := hx_arr (by decide) hc
  rw [e]
  simp only [fX3_tread, h0, h2, h9, h10, ck_t, rb_s, inb_n hc (by decide), tn (show c < 1000000 by omega)]
  rfl
theorem p_kt {M : Mem} {k : Nat} (hk : Kd M) (hk6 : k ≤ 6) : vt10_tread M (22 + k) = some (aTread (nI k), M) := by
  obtain ⟨k0, k1, k2, ⟨-, k3⟩, ⟨-, k4⟩, ⟨-, k5⟩, ⟨-, k6⟩, ⟨-, k7⟩, ⟨-, k8⟩, ⟨-, k9⟩⟩ := hk
  have hlt : 22 + k < mN M := by omega
  unfold vt10_tread
  rw [show decide (22 + k < mN M) = true from decide_eq_true hlt, ck_t]
  rcases (show k = 0 ∨ k = 1 ∨ k = 2 ∨ k = 3 ∨ k = 4 ∨ k = 5 ∨ k = 6 by omega) with rfl | rfl | rfl | rfl | rfl | rfl | rfl
  · simp only [Nat.add_zero, k3]; rfl
  · simp only [show 22 + 1 = 23 from rfl, k4]; rfl
  · simp only [show 22 + 2 = 24 from rfl, k5]; rfl
  · simp only [show 22 + 3 = 25 from rfl, k6]; rfl
  · simp only [show 22 + 4 = 26 from rfl, k7]; rfl
  · simp only [show 22 + 5 = 27 from rfl, k8]; rfl
  · simp only [show 22 + 6 = 28 from rfl, k9]; rfl
/-! ===== ranges are kept ===== -/
theorem aMore_in : ∀ w, w ≤ 99 → ∀ k, k ≤ 6 → ∃ u, u ≤ 99 ∧ aMore (nI w) (aTread (nI k)) = nI u := by
  have h : ∀ w, w < 100 → ∀ k, k < 7 → (aMore (nI w) (aTread (nI k))).toNatClampNeg ≤ 99 ∧ aMore (nI w) (aTread (nI k)) = nI (aMore (nI w) (aTread (nI k))).toNatClampNeg := by decide +kernel
  intro w hw k hk
  exact ⟨_, h w (by omega) k (by omega)⟩
theorem aLess_in : ∀ w, w ≤ 99 → ∃ u, u ≤ 99 ∧ aLess (nI w) = nI u := by
  have h : ∀ w, w < 100 → (aLess (nI w)).toNatClampNeg ≤ 99 ∧ aLess (nI w) = nI (aLess (nI w)).toNatClampNeg := by decide +kernel
  intro w hw
  exact ⟨_, h w (by omega)⟩
theorem Hok_wear {H : Hall} {c w : Nat} (h : Hok H) (hc : c < 25) (hw : w ≤ 99) : Hok (up2 H 0 c (nI w)) := by
  obtain ⟨h1, h2, h3, h4, h5, h6⟩ := h
  refine ⟨h1, h2, fun i hi => ?_, h4, h5, h6⟩
  by_cases e : i = c
  · exact ⟨w, hw, by simp [up2, e]⟩
  · simpa [up2, e] using h3 i hi
theorem Hok_cell {H : Hall} {p c : Nat} (h : Hok H) (hc : c < 25) : Hok (up2 H 3 p (nI c)) := by
  obtain ⟨h1, h2, h3, h4, h5, h6⟩ := h
  refine ⟨h1, h2, h3, h4, fun i hi => ?_, h6⟩
  by_cases e : i = p
  · exact ⟨c, hc, by simp [up2, e]⟩
  · simpa [up2, e] using h5 i hi
theorem Hok_away {H : Hall} {p : Nat} {x : Int32} (h : Hok H) (hx : x = 0 ∨ x = 1) : Hok (up2 H 4 p x) := by
  obtain ⟨h1, h2, h3, h4, h5, h6⟩ := h
  refine ⟨h1, h2, h3, h4, h5, fun i hi => ?_⟩
  by_cases e : i = p
  · simpa [up2, e] using hx
  · simpa [up2, e] using h6 i hi
theorem Hok_v {H : Hall} {p : Nat} {x : Int32} (h : Hok H) : Hok (up2 H 2 p x) := h
theorem Hok_rows {H : Hall} {p : Nat} {x : Int32} (h : Hok H) : Hok (up2 H 5 p x) := h
theorem Hok_hour {H : Hall} {n : Nat} (h : Hok H) (hn : n ≤ 20000) : Hok (up2 H 6 0 (nI n)) := by
  obtain ⟨h1, h2, h3, h4, h5, h6⟩ := h
  exact ⟨h1, ⟨n, hn, by simp [up2]⟩, h3, h4, h5, h6⟩
theorem Hok_go {lw : Law} {bd : Int32} {H : Hall} {p : Nat} (h : Hok H) (hp : p < 6) : Hok (aGo lw bd H p) := by
  unfold aGo
  split
  · obtain ⟨d, hd, e⟩ := aSent_in (lw := lw) (bd := bd) h hp
    obtain ⟨w, hw, ew⟩ := h.2.2.1 d hd
    obtain ⟨k, hk, ek⟩ := h.2.2.2.1 p hp
    obtain ⟨u, hu, eu⟩ := aMore_in w hw k hk
    rw [e, tn (by omega), ew, ek, eu]
    exact Hok_wear (Hok_cell h hd) hd hu
  · exact h
theorem aGo_6 {lw : Law} {bd : Int32} {H : Hall} {p : Nat} : aGo lw bd H p 6 = H 6 := by
  unfold aGo
  split
  · funext i
    simp [up2]
  · rfl
theorem Hok_all {lw : Law} {bd : Int32} : ∀ (n p : Nat) (H : Hall), p + n ≤ 6 → Hok H → Hok (aAll lw bd n p H) ∧ aAll lw bd n p H 6 = H 6 := by
  intro n
  induction n with
  | zero => intro p H _ h; exact ⟨h, rfl⟩
  | succ n ih =>
    intro p H hp h
    have := ih (p + 1) (aGo lw bd H p) (by omega) (Hok_go h (by omega))
    rw [aGo_6] at this
    exact this
theorem Hok_spring : ∀ (n c : Nat) (H : Hall), c + n = 25 → Hok H → Hok (aSpring n c H) ∧ aSpring n c H 6 = H 6 := by
  intro n
  induction n with
  | zero => intro p H _ h; exact ⟨h, rfl⟩
  | succ n ih =>
    intro c H hc h
    obtain ⟨w, hw, ew⟩ := h.2.2.1 c (by omega)
    obtain ⟨u, hu, eu⟩ := aLess_in w hw
    unfold aSpring
    rw [ew, eu]
    exact ih (c + 1) _ (by omega) (Hok_wear h (by omega) hu)
/-- ranges, with the hour's -/
def Hb (b : Nat) (H : Hall) : Prop := Hok H ∧ ∃ h, h ≤ b ∧ H 6 0 = nI h
theorem Hb_tick {b : Nat} {H : Hall} (h : Hb b H) (hb : b < 20000) : Hb (b + 1) (aTick H) ∧ aTick H 6 1 = H 6 1 := by
  obtain ⟨h, hh, hl, e⟩ := h
  have e2 : H 6 0 + 1 = nI (hh + 1) := by rw [e]; exact nI_1 hh
  have h1 : Hok (up2 H 6 0 (nI (hh + 1))) := Hok_hour h (by omega)
  unfold aTick
  rw [e2]
  split
  · obtain ⟨g1, g2⟩ := Hok_spring 25 0 _ rfl h1
    refine ⟨⟨g1, hh + 1, by omega, ?_⟩, ?_⟩
    · rw [g2]; simp [up2]
    · rw [g2]; simp [up2]
  · exact ⟨⟨h1, hh + 1, by omega, by simp [up2]⟩, by simp [up2]⟩
theorem Hb_hour {lw : Law} {bd : Int32} {b : Nat} {H : Hall} (h : Hb b H) (hb : b < 20000) : Hb (b + 1) (aHour lw bd H) ∧ aHour lw bd H 6 1 = H 6 1 := by
  obtain ⟨h, hh, hl, e⟩ := h
  obtain ⟨n, hn, en⟩ := h.1
  unfold aHour
  rw [en, tn (by omega)]
  obtain ⟨g1, g2⟩ := Hok_all (lw := lw) (bd := bd) n 0 H (by omega) h
  obtain ⟨t1, t2⟩ := Hb_tick (b := b) ⟨g1, hh, hl, by rw [g2]; exact e⟩ hb
  exact ⟨t1, by rw [t2, g2]; exact en⟩
def aHours (lw : Law) (bd : Int32) : Nat → Hall → Hall
  | 0, H => H
  | n + 1, H => aHours lw bd n (aHour lw bd H)
theorem Hb_hours {lw : Law} {bd : Int32} : ∀ (n b : Nat) (H : Hall), Hb b H → b + n ≤ 20000 → Hb (b + n) (aHours lw bd n H) ∧ aHours lw bd n H 6 1 = H 6 1 := by
  intro n
  induction n with
  | zero => intro b H h _; exact ⟨h, rfl⟩
  | succ n ih =>
    intro b H h hb
    obtain ⟨g1, g2⟩ := Hb_hour (lw := lw) (bd := bd) h (by omega)
    obtain ⟨k1, k2⟩ := ih (b + 1) _ g1 (by omega)
    exact ⟨by rw [show b + (n + 1) = b + 1 + n by omega]; exact k1, by show aHours lw bd n (aHour lw bd H) 6 1 = _; rw [k2, g2]⟩
/-! ===== class: an hour ===== -/
theorem p_springL {o : Nat} : ∀ (n m c : Nat) (M : Mem), Hl M o → c + n = 25 → ∃ N, gX3_goHour_76 (m + n + 1) M o (nI c) = some ((), N) ∧ Fr M N o ∧ hC N o = aSpring n c (hC M o) := by
  intro n
  induction n with
  | zero =>
    intro m c M h hc
    have : c = 25 := by omega
    subst this
    refine ⟨M, ?_, Fr_r, rfl⟩
    rw [gX3_goHour_76_s, if_pos (by decide)]
  | succ n ih =>
    intro m c M h hc
    obtain ⟨h0, h1, h2, -, -, -, -, -, -, h9, h10, -⟩ := id h
    have e : hC M o 0 c = mI M (o + 1) c := hx_arr (by decide) (show c < 25 by omega)
    obtain ⟨N, k1, k2, k3⟩ := ih m (c + 1) (stI M (o + 1) c (aLess (mI M (o + 1) c))) (Fr_Hl (o := o) (Fr_stI (by omega)) h) (by omega)
    refine ⟨N, ?_, Fr_t (Fr_stI (by omega)) k2, ?_⟩
    · rw [show m + (n + 1) + 1 = (m + n + 1) + 1 by omega, gX3_goHour_76_s, if_neg (ge25 (by omega))]
      simp only [h0, h2, h9, h10, ck_t, rb_s, nm_s, inb_n (show c < 25 by omega) (by decide), tn (show c < 1000000 by omega)]
      rw [show (nI c + 1 : Int32) = nI (c + 1) from nI_1 c]
      exact k1
    · rw [k3]
      show aSpring n (c + 1) _ = aSpring n (c + 1) _
      have := hx_put (M := M) (b := o + 1) (c := o) (hr := 2) (pe := 4) (k := 0) (i := c) (x := aLess (mI M (o + 1) c)) (by decide) (show c < 25 by omega) (by omega)
      rw [e]
      exact congrArg _ this
set_option maxHeartbeats 2000000 in
theorem p_goHourL {o s : Nat} {lw : Law} {bd0 : Int32} (ho : o = 31 ∨ o = 39) : ∀ (n m p : Nat) (M : Mem), Hl M o → Kd M → mR M o 1 = some s → Sq M s lw bd0 → Hok (hC M o) → hC M o 6 1 = nI (p + n) → p + n ≤ 6 →
    ∃ N, gX3_goHour_2 (m + n + 1) M o (nI p) = some ((), N) ∧ Fr M N o ∧ hC N o = aTick (aAll lw bd0 n p (hC M o)) := by
  intro n
  induction n with
  | zero =>
    intro m p M h hk hs hq hH hp h6
    have e6 : mI M o 4 = nI p := hp
    have er : mI M o 2 = hC M o 6 0 := rfl
    obtain ⟨h0, -⟩ := id h
    obtain ⟨m', hm'⟩ := FUs 25 (by decide)
    have hput : hC (stI M o 2 (hC M o 6 0 + 1)) o = up2 (hC M o) 6 0 (hC M o 6 0 + 1) := hx_hr (by decide) (by omega)
    obtain ⟨N, k1, k2, k3⟩ := p_springL (o := o) 25 m' 0 (stI M o 2 (hC M o 6 0 + 1)) (Fr_Hl (o := o) (Fr_stI (by omega)) h) rfl
    rw [← hm'] at k1
    have eq1 : mI (stI M o 2 (hC M o 6 0 + 1)) o 2 = hC M o 6 0 + 1 := by simp [mI_stI]
    rw [gX3_goHour_2_s, h0, ck_t, if_pos (by rw [e6]; exact Int32.le_refl _), er, eq1]
    by_cases hz : aRem (hC M o 6 0 + 1) 10 = 0
    · refine ⟨N, ?_, Fr_t (Fr_stI (by omega)) k2, ?_⟩
      · exact (if_pos hz).trans k1
      · rw [k3, hput]
        show _ = aTick (hC M o)
        unfold aTick
        rw [if_pos hz]
    · refine ⟨_, if_neg hz, Fr_stI (by omega), ?_⟩
      rw [hput]
      show _ = aTick (hC M o)
      unfold aTick
      rw [if_neg hz]
  | succ n ih =>
    intro m p M h hk hs hq hH hp h6
    have ep : p < 6 := by omega
    have e6 : mI M o 4 = nI (p + (n + 1)) := hp
    obtain ⟨h0, h1, h2, h3, h4, h5, h6', h7, h8, h9, h10, h11, h12, h13, h14, h15, h16, h17, h18, h19, h20, h21, h22⟩ := id h
    have ip := inb_n ep (by decide : 6 < 1000000)
    have tp := tn (show p < 1000000 by omega)
    have e4 : mI M (o + 5) p = hC M o 4 p := (hx_arr (b := o + 1) (k := 4) (by decide) ep).symm
    rw [show m + (n + 1) + 1 = (m + n + 1) + 1 by omega, gX3_goHour_2_s, h0, ck_t, if_neg (by rw [e6, leL (by omega) (by omega)]; omega)]
    show ∃ N, _ ∧ Fr M N o ∧ hC N o = aTick (aAll lw bd0 n (p + 1) (aGo lw bd0 (hC M o) p))
    simp only [h6', h17, h18, ip, tp, ck_t, rb_s, e4, h5]
    have hs1 : (nI p + 1 : Int32) = nI (p + 1) := nI_1 p
    by_cases ha : hC M o 4 p = 0
    · obtain ⟨N, n1, n2, n3⟩ := p_sends' h hk hs hq ho hH ep
      obtain ⟨d, hd, ed⟩ := aSent_in (lw := lw) (bd := bd0) hH ep
      obtain ⟨k, hk6, ek⟩ := hH.2.2.2.1 p ep
      have g0 := Fr_Hl n2 h
      obtain ⟨g0', g1, g2, g3, g4, g5, g6', g7, g8, g9, g10, g11, g12, g13, g14, g15, g16, g17, g18, g19, g20, g21, g22⟩ := id g0
      have l1 : Hl (stI N (o + 4) p (nI d)) o := Fr_Hl (o := o) (Fr_stI (by omega)) g0
      have kd1 : Kd (stI N (o + 4) p (nI d)) := Fr_Kd (o := o) (Fr_stI (by omega)) (Fr_Kd n2 hk)
      have hp1 : hC (stI N (o + 4) p (nI d)) o = up2 (hC M o) 3 p (nI d) := by
        rw [← n3]
        exact hx_put (b := o + 1) (c := o) (k := 3) (by decide) ep (by omega)
      have eqk : fX3_kindOf (stI N (o + 4) p (nI d)) o (nI p) = some (22 + k, stI N (o + 4) p (nI d)) := p_kindOf l1 kd1 ep (by rw [hp1]; simpa [up2] using ek) hk6
      have eqd : mI (stI N (o + 4) p (nI d)) (o + 4) p = nI d := by simp [mI_stI]
      rw [if_pos ha, n1, bd_s]
      simp only [g5, g15, g16, g0', ip, tp, ck_t, rb_s, mR_stI, ed, eqk, bd_s, p_kt kd1 hk6, eqd]
      rw [show isK (stI N (o + 4) p (nI d)) o 3 = true from g0', ck_t, p_htread l1 hd, bd_s]
      unfold gX3_goHour_48
      rw [hs1]
      have hgo : hC (stI (stI N (o + 4) p (nI d)) (o + 1) d (aMore (hC (stI N (o + 4) p (nI d)) o 0 d) (aTread (nI k)))) o = aGo lw bd0 (hC M o) p := by
        rw [show hC (stI (stI N (o + 4) p (nI d)) (o + 1) d (aMore (hC (stI N (o + 4) p (nI d)) o 0 d) (aTread (nI k)))) o = up2 (hC (stI N (o + 4) p (nI d)) o) 0 d (aMore (hC (stI N (o + 4) p (nI d)) o 0 d) (aTread (nI k))) from hx_put (b := o + 1) (c := o) (k := 0) (by decide) hd (by omega), hp1]
        unfold aGo
        rw [if_pos ha, ed, tn (by omega), ek]
        simp [up2]
      have fr : Fr M (stI (stI N (o + 4) p (nI d)) (o + 1) d (aMore (hC (stI N (o + 4) p (nI d)) o 0 d) (aTread (nI k)))) o := Fr_t n2 (Fr_t (Fr_stI (by omega)) (Fr_stI (by omega)))
      obtain ⟨P, p1, p2, p3⟩ := ih m (p + 1) _ (Fr_Hl fr h) (Fr_Kd fr hk) (Fr_R fr hs) (Fr_Sq (by omega) fr hq) (by rw [hgo]; exact Hok_go hH ep) (by rw [hgo, aGo_6, show p + 1 + n = p + (n + 1) by omega]; exact hp) (by omega)
      exact ⟨P, p1, Fr_t fr p2, by rw [p3, hgo]⟩
    · rw [if_neg ha]
      unfold gX3_goHour_48
      rw [hs1]
      have hgo : aGo lw bd0 (hC M o) p = hC M o := by
        unfold aGo
        rw [if_neg ha]
      rw [hgo]
      exact ih m (p + 1) M h hk hs hq hH (by rw [show p + 1 + n = p + (n + 1) by omega]; exact hp) (by omega)
