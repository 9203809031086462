/-! ===== model: an hour ===== -/
theorem nlt {a b : Int32} : ¬ a < b ↔ b ≤ a := Int32.not_lt
set_option maxHeartbeats 2000000 in
theorem p_msentL {M : Mem} {p c : Nat} {lw : Law} {bd0 : Int32} (h : Sh M) (hq : Mq M lw bd0) (hH : Hok (hM M)) (hp : p < 6) (hc : c < 25) (ec : hM M 3 p = nI c) :
    ∀ (n m side : Nat) (F : Nat → Int32) (best most stays : Int32), side + n = 4 → ((stays = 1 ∧ best = nI c) ∨ (stays = 0 ∧ best ≠ nI c)) → ∃ G, gX12_sent_12 (m + n + 1) (wF M 69 F) 55 (nI p) best most (nI side) = some (aSentL lw bd0 (hM M) p n side best most stays, wF M 69 G) := by
  intro n
  induction n with
  | zero =>
    intro m side F best most stays hn _
    have : side = 4 := by omega
    subst this
    refine ⟨F, ?_⟩
    rw [gX12_sent_12_s, if_pos (by decide)]
    rfl
  | succ n ih =>
    intro m side F best most stays hn hst
    have ip := inb_n hp (by decide : 6 < 1000000)
    have tp := tn (show p < 1000000 by omega)
    have hH2 : ∀ F, hM (wF M 69 F) = hM M := fun F => hM_w (by omega)
    have e3 : ∀ F, mI (wF M 69 F) 59 p = nI c := by
      intro F
      rw [mI_wF, if_neg (by omega), ← ec]
      exact hM_3 hp
    have hs1 : (nI side + 1 : Int32) = nI (side + 1) := nI_1 side
    rw [show m + (n + 1) + 1 = (m + n + 1) + 1 by omega, gX12_sent_12_s, if_neg (ge4 (by omega))]
    simp only [isK_wF, mR_wF, mG_wF, k_55 h, r_55_4 h, k_59 h, g_59 h, ip, tp, ck_t, rb_s, p_mnext hc (show side < 4 by omega), bd_s, e3]
    unfold aSentL
    rcases nxt_in c hc side (by omega) with hx | ⟨d, hd, hdc, hx⟩
    · rw [ec, hx]
      simp only [if_true]
      unfold gX12_sent_83
      rw [hs1]
      exact ih m (side + 1) F best most stays (by omega) hst
    · rw [ec, hx, if_neg (m1_ne (by omega)), if_neg (m1_ne (by omega))]
      have f1 : Fm M (wF M 69 F) := Fm_wF (Or.inr rfl)
      rw [p_mbald (lw := lw) (bd := bd0) (Fm_Sh f1 h) (Fm_Mq f1 hq) hd, bd_s, hH2, tn (show d < 1000000 by omega)]
      have hdc' : nI d ≠ nI c := by
        intro e
        rw [eqL (by omega) (by omega)] at e
        exact hdc e
      by_cases hb : hM M 0 d < bd0
      · simp only [hb, if_true]
        obtain ⟨G, hG⟩ := p_mpull (lw := lw) (bd0 := bd0) (Fm_Sh f1 h) (Fm_Mq f1 hq) (by rw [hH2]; exact hH) hp hd
        rw [hG, bd_s, hH2, wF_wF]
        simp only [isK_wF, mR_wF, mG_wF, k_55 h, r_55_4 h, k_59 h, g_59 h, ip, tp, ck_t, rb_s, e3]
        rcases hst with ⟨g1, g2⟩ | ⟨g1, g2⟩
        · subst g1 g2
          rw [if_pos rfl, if_neg (by decide)]
          unfold gX12_sent_77 gX12_sent_83
          rw [hs1]
          exact ih m (side + 1) _ (nI d) _ 0 (by omega) (Or.inr ⟨rfl, hdc'⟩)
        · subst g1
          rw [if_neg g2, if_pos rfl]
          by_cases g5 : aPull lw (hM M) p d ≤ most
          · rw [if_neg (nlt.mpr g5), if_pos g5]
            unfold gX12_sent_83
            rw [hs1]
            exact ih m (side + 1) _ best most 0 (by omega) (Or.inr ⟨rfl, g2⟩)
          · rw [if_pos (Classical.byContradiction fun hh => g5 (nlt.mp hh)), if_neg g5]
            unfold gX12_sent_77 gX12_sent_83
            rw [hs1]
            exact ih m (side + 1) _ (nI d) _ 0 (by omega) (Or.inr ⟨rfl, hdc'⟩)
      · simp only [hb, if_false]
        rw [if_neg (by decide)]
        unfold gX12_sent_83
        rw [hs1]
        exact ih m (side + 1) F best most stays (by omega) hst
theorem p_msent {M : Mem} {p : Nat} {lw : Law} {bd0 : Int32} (h : Sh M) (hq : Mq M lw bd0) (hH : Hok (hM M)) (hp : p < 6) : ∃ G, fX12_sent M 55 (nI p) = some (aSent lw bd0 (hM M) p, wF M 69 G) := by
  obtain ⟨c, hc, ec⟩ := hH.2.2.2.2.1 p hp
  obtain ⟨m, hm⟩ := FUs 4 (by decide)
  obtain ⟨G, hG⟩ := p_msentL h hq hH hp hc ec 4 m 0 (mI M 69) (hM M 3 p) 0 1 rfl (Or.inl ⟨rfl, ec⟩)
  refine ⟨G, ?_⟩
  rw [wF_self, ← hm] at hG
  unfold fX12_sent aSent
  simp only [k_55 h, r_55_4 h, k_59 h, g_59 h, inb_n hp (by decide : 6 < 1000000), tn (show p < 1000000 by omega), ck_t, rb_s, hM_3 hp]
  exact hG
theorem p_mtread {M : Mem} {p k : Nat} (h : Sh M) (hp : p < 6) (hk : k ≤ 6) (ek : hM M 1 p = nI k) : fX12_tread M 55 (nI p) = some (aTread (nI k), M) := by
  unfold fX12_tread
  simp only [k_55 h, r_55_2 h, k_57 h, g_57 h, inb_n hp (by decide : 6 < 1000000), tn (show p < 1000000 by omega), ck_t, rb_s, hM_1 hp, ek]
  rcases (show k = 0 ∨ k = 1 ∨ k = 2 ∨ k = 3 ∨ k = 4 ∨ k = 5 ∨ k = 6 by omega) with rfl | rfl | rfl | rfl | rfl | rfl | rfl <;> rfl
def aHeld (x : Int32) : Int32 := if 0 < (if x < 99 then x else 99) then (if x < 99 then x else 99) else 0
theorem p_held {M : Mem} {x : Int32} : fX12_held M x = some (aHeld x, M) := rfl
theorem aHeld_n : ∀ a, a < 300 → aHeld (nI a) = nI (min a 99) := by decide +kernel
theorem aMore_n {w n : Nat} (h : w + n < 300) : aMore (nI w) (nI n) = nI (min (w + n) 99) := by
  unfold aMore
  simp only [nI_add, show (99 : Int32) = nI 99 from rfl, ltL (show w + n < 1000000 by omega) (show 99 < 1000000 by omega)]
  split
  · rw [Nat.min_eq_left (by omega)]
  · rw [Nat.min_eq_right (by omega)]
theorem aHeld_more {w n : Nat} (h : w + n < 300) : aHeld (nI w + nI n) = aMore (nI w) (nI n) := by rw [nI_add, aHeld_n _ h, aMore_n h]
theorem aTread_n : ∀ k, k ≤ 6 → ∃ t, t ≤ 6 ∧ aTread (nI k) = nI t := by
  have h : ∀ k, k < 7 → (aTread (nI k)).toNatClampNeg ≤ 6 ∧ aTread (nI k) = nI (aTread (nI k)).toNatClampNeg := by decide +kernel
  intro k hk
  exact ⟨_, h k (by omega)⟩
theorem aLess_n : ∀ w, w ≤ 99 → aHeld (nI w - 1) = aLess (nI w) := by
  have h : ∀ w, w < 100 → aHeld (nI w - 1) = aLess (nI w) := by decide +kernel
  intro w hw
  exact h w (by omega)
def Hw (H : Hall) : Prop := ∀ i, i < 25 → ∃ w, w ≤ 99 ∧ H 0 i = nI w
theorem Hw_put {H : Hall} {c w : Nat} (h : Hw H) (hw : w ≤ 99) : Hw (up2 H 0 c (nI w)) := by
  intro i hi
  by_cases e : i = c
  · exact ⟨w, hw, by simp [up2, e]⟩
  · simpa [up2, e] using h i hi
theorem p_mspringL : ∀ (n m c : Nat) (M : Mem), Sh M → Hw (hM M) → c + n = 25 → ∃ N, gX12_goesHour_93 (m + n + 1) M 55 (nI c) = some ((), N) ∧ Fm M N ∧ hM N = aSpring n c (hM M) := by
  intro n
  induction n with
  | zero =>
    intro m c M h hH hc
    have : c = 25 := by omega
    subst this
    refine ⟨M, ?_, Fm_r, rfl⟩
    rw [gX12_goesHour_93_s, if_pos (by decide)]
  | succ n ih =>
    intro m c M h hH hc
    obtain ⟨w, hw, ew⟩ := hH c (by omega)
    obtain ⟨u, hu, eu⟩ := aLess_in w hw
    have e2 : aHeld (hM M 0 c - 1) = nI u := by rw [ew, aLess_n w hw, eu]
    have hput : hM (stI M 56 c (nI u)) = up2 (hM M) 0 c (nI u) := hM_s0 (by omega)
    obtain ⟨N, k1, k2, k3⟩ := ih m (c + 1) (stI M 56 c (nI u)) (Fm_Sh (Fm_stI (Or.inl (by decide))) h) (by rw [hput]; exact Hw_put hH hu) (by omega)
    refine ⟨N, ?_, Fm_t (Fm_stI (Or.inl (by decide))) k2, ?_⟩
    · rw [show m + (n + 1) + 1 = (m + n + 1) + 1 by omega, gX12_goesHour_93_s, if_neg (ge25 (by omega))]
      simp only [k_55 h, r_55_0 h, k_56 h, g_56 h, inb_n (show c < 25 by omega) (by decide : 25 < 1000000), tn (show c < 1000000 by omega), ck_t, rb_s, p_held, bd_s, hM_0 (show c < 25 by omega), e2, nI_1]
      exact k1
    · rw [k3, hput]
      show _ = aSpring n (c + 1) (up2 (hM M) 0 c (aLess (hM M 0 c)))
      rw [ew, eu]
set_option maxHeartbeats 2000000 in
theorem p_mhourL {lw : Law} {bd0 : Int32} : ∀ (n m p : Nat) (M : Mem), Sh M → Mq M lw bd0 → Hok (hM M) → hM M 6 1 = nI (p + n) → p + n ≤ 6 →
    ∃ N, gX12_goesHour_2 (m + n + 1) M 55 (nI p) = some ((), N) ∧ Fm M N ∧ hM N = aTick (aAll lw bd0 n p (hM M)) := by
  intro n
  induction n with
  | zero =>
    intro m p M h hq hH hp h6
    have e6 : mI M 55 1 = nI p := hp
    have er : mI M 55 7 = hM M 6 0 := rfl
    obtain ⟨m', hm'⟩ := FUs 25 (by decide)
    have hput : hM (stI M 55 7 (hM M 6 0 + 1)) = up2 (hM M) 6 0 (hM M 6 0 + 1) := hM_sh
    have hH3 : Hw (hM (stI M 55 7 (hM M 6 0 + 1))) := by
      rw [hput]
      exact hH.2.2.1
    obtain ⟨N, k1, k2, k3⟩ := p_mspringL 25 m' 0 (stI M 55 7 (hM M 6 0 + 1)) (Fm_Sh Fm_hour h) hH3 rfl
    rw [← hm'] at k1
    have eq1 : mI (stI M 55 7 (hM M 6 0 + 1)) 55 7 = hM M 6 0 + 1 := by simp [mI_stI]
    rw [gX12_goesHour_2_s, k_55 h, ck_t, if_pos (by rw [e6]; exact Int32.le_refl _), er, eq1]
    by_cases hz : aRem (hM M 6 0 + 1) 10 = 0
    · refine ⟨N, (if_pos hz).trans k1, Fm_t Fm_hour k2, ?_⟩
      rw [k3, hput]
      show _ = aTick (hM M)
      unfold aTick
      rw [if_pos hz]
    · refine ⟨_, if_neg hz, Fm_hour, ?_⟩
      rw [hput]
      show _ = aTick (hM M)
      unfold aTick
      rw [if_neg hz]
  | succ n ih =>
    intro m p M h hq hH hp h6
    have ep : p < 6 := by omega
    have e6 : mI M 55 1 = nI (p + (n + 1)) := hp
    have ip := inb_n ep (by decide : 6 < 1000000)
    have tp := tn (show p < 1000000 by omega)
    rw [show m + (n + 1) + 1 = (m + n + 1) + 1 by omega, gX12_goesHour_2_s, k_55 h, ck_t, if_neg (by rw [e6, leL (by omega) (by omega)]; omega)]
    show ∃ N, _ ∧ Fm M N ∧ hM N = aTick (aAll lw bd0 n (p + 1) (aGo lw bd0 (hM M) p))
    simp only [r_55_5 h, k_60 h, g_60 h, r_55_4 h, ip, tp, ck_t, rb_s, hM_4 ep]
    have hs1 : (nI p + 1 : Int32) = nI (p + 1) := nI_1 p
    rcases hH.2.2.2.2.2 p ep with ha | ha
    · obtain ⟨G, n1⟩ := p_msent h hq hH ep
      obtain ⟨d, hd, ed⟩ := aSent_in (lw := lw) (bd := bd0) hH ep
      obtain ⟨k, hk6, ek⟩ := hH.2.2.2.1 p ep
      obtain ⟨w, hw, ew⟩ := hH.2.2.1 d hd
      obtain ⟨t, ht, et⟩ := aTread_n k hk6
      have n2 : Fm M (wF M 69 G) := Fm_wF (Or.inr rfl)
      have n3 : hM (wF M 69 G) = hM M := hM_w (by decide)
      have f2 : Fm M (stI (wF M 69 G) 59 p (nI d)) := Fm_t n2 (Fm_stI (Or.inl (by decide)))
      have hp1 : hM (stI (wF M 69 G) 59 p (nI d)) = up2 (hM M) 3 p (nI d) := by
        rw [hM_s3 ep, n3]
      have e0 : mI (stI (wF M 69 G) 59 p (nI d)) 56 d = nI w := by
        rw [hM_0 hd, hp1, ← ew]
        rfl
      have eqd : mI (stI (wF M 69 G) 59 p (nI d)) 59 p = nI d := by simp [mI_stI]
      have etr := p_mtread (Fm_Sh f2 h) ep hk6 (by rw [hp1]; simpa [up2] using ek)
      rw [if_neg (by rw [ha]; decide), n1, bd_s]
      simp only [isK_wF, isK_stI, mG_wF, mG_stI, mR_stI, mR_wF, k_55 h, r_55_0 h, r_55_4 h, k_59 h, g_59 h, k_56 h, g_56 h, ip, tp, ck_t, rb_s, ed, eqd, inb_n hd (by decide : 25 < 1000000), tn (show d < 1000000 by omega), etr, bd_s, p_held, e0, et, aHeld_more (show w + t < 300 by omega)]
      unfold gX12_goesHour_65
      rw [hs1]
      have hgo : hM (stI (stI (wF M 69 G) 59 p (nI d)) 56 d (aMore (nI w) (nI t))) = aGo lw bd0 (hM M) p := by
        rw [hM_s0 hd, hp1]
        unfold aGo
        rw [if_pos ha, ed, tn (by omega), ek, et, ew]
      have fr : Fm M (stI (stI (wF M 69 G) 59 p (nI d)) 56 d (aMore (nI w) (nI t))) := Fm_t f2 (Fm_stI (Or.inl (by decide)))
      obtain ⟨P, p1, p2, p3⟩ := ih m (p + 1) _ (Fm_Sh fr h) (Fm_Mq fr hq) (by rw [hgo]; exact Hok_go hH ep) (by rw [hgo, aGo_6, show p + 1 + n = p + (n + 1) by omega]; exact hp) (by omega)
      exact ⟨P, p1, Fm_t fr p2, by rw [p3, hgo]⟩
    · rw [if_pos ha]
      unfold gX12_goesHour_65
      rw [hs1]
      have hgo : aGo lw bd0 (hM M) p = hM M := by
        unfold aGo
        rw [if_neg (by rw [ha]; decide)]
      rw [hgo]
      exact ih m (p + 1) M h hq hH (by rw [show p + 1 + n = p + (n + 1) by omega]; exact hp) (by omega)
theorem p_mhour {lw : Law} {bd0 : Int32} {M : Mem} (h : Sh M) (hq : Mq M lw bd0) (hH : Hok (hM M)) : ∃ N, fX12_goesHour M 55 = some ((), N) ∧ Fm M N ∧ hM N = aHour lw bd0 (hM M) := by
  obtain ⟨n, hn, en⟩ := hH.1
  obtain ⟨m, hm⟩ := FUs n (by omega)
  obtain ⟨N, k1, k2, k3⟩ := p_mhourL (lw := lw) (bd0 := bd0) n m 0 M h hq hH (by rw [en, Nat.zero_add]) (by omega)
  rw [← hm] at k1
  refine ⟨N, k1, k2, ?_⟩
  rw [k3]
  unfold aHour
  rw [en, tn (by omega)]
/-! ===== model: counts ===== -/
theorem p_mbaldsL {M : Mem} {lw : Law} {bd0 : Int32} (h : Sh M) (hq : Mq M lw bd0) : ∀ (n m c : Nat) (acc : Int32), c + n = 25 → gX12_balds_4 (m + n + 1) M 55 acc (nI c) = some (aBald bd0 (hM M) n c acc, M) := by
  intro n
  induction n with
  | zero =>
    intro m c acc hc
    have : c = 25 := by omega
    subst this
    rw [gX12_balds_4_s, if_pos (by decide)]
    rfl
  | succ n ih =>
    intro m c acc hc
    rw [show m + (n + 1) + 1 = (m + n + 1) + 1 by omega, gX12_balds_4_s, if_neg (ge25 (by omega)), k_55 h, ck_t, p_mbald h hq (by omega), bd_s]
    unfold aBald gX12_balds_21
    rw [nI_1]
    by_cases hb : hM M 0 c < bd0
    · rw [if_pos hb, if_pos rfl, if_pos hb]
      exact ih m (c + 1) acc (by omega)
    · rw [if_neg hb, if_neg (by decide), if_neg hb]
      exact ih m (c + 1) (acc + 1) (by omega)
theorem p_mbalds {M : Mem} {lw : Law} {bd0 : Int32} (h : Sh M) (hq : Mq M lw bd0) : fX12_balds M 55 = some (aBald bd0 (hM M) 25 0 0, M) := by
  obtain ⟨m, hm⟩ := FUs 25 (by decide)
  have := p_mbaldsL h hq 25 m 0 0 rfl
  rw [← hm] at this
  exact this
theorem p_mallWearL {M : Mem} (h : Sh M) : ∀ (n m c : Nat) (acc : Int32), c + n = 25 → gX12_allWear_4 (m + n + 1) M 55 acc (nI c) = some (aWear (hM M) n c acc, M) := by
  intro n
  induction n with
  | zero =>
    intro m c acc hc
    have : c = 25 := by omega
    subst this
    rw [gX12_allWear_4_s, if_pos (by decide)]
    rfl
  | succ n ih =>
    intro m c acc hc
    rw [show m + (n + 1) + 1 = (m + n + 1) + 1 by omega, gX12_allWear_4_s, if_neg (ge25 (by omega))]
    simp only [k_55 h, r_55_0 h, k_56 h, g_56 h, ck_t, rb_s, inb_n (show c < 25 by omega) (by decide), tn (show c < 1000000 by omega), nI_1, hM_0 (show c < 25 by omega)]
    unfold aWear
    exact ih m (c + 1) _ (by omega)
theorem p_mallWear {M : Mem} (h : Sh M) : fX12_allWear M 55 = some (aWear (hM M) 25 0 0, M) := by
  obtain ⟨m, hm⟩ := FUs 25 (by decide)
  have := p_mallWearL h 25 m 0 0 rfl
  rw [← hm] at this
  exact this
