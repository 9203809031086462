theorem p_goHour {o s : Nat} {lw : Law} {bd0 : Int32} (ho : o = 31 ∨ o = 39) {M : Mem} (h : Hl M o) (hk : Kd M) (hs : mR M o 1 = some s) (hq : Sq M s lw bd0) (hH : Hok (hC M o)) :
    ∃ N, fX3_goHour M o = some ((), N) ∧ Fr M N o ∧ hC N o = aHour lw bd0 (hC M o) := by
  obtain ⟨n, hn, en⟩ := hH.1
  obtain ⟨m, hm⟩ := FUs n (by omega)
  obtain ⟨N, k1, k2, k3⟩ := p_goHourL (s := s) (lw := lw) (bd0 := bd0) ho n m 0 M h hk hs hq hH (by rw [en, Nat.zero_add]) (by omega)
  rw [← hm] at k1
  refine ⟨N, k1, k2, ?_⟩
  rw [k3]
  unfold aHour
  rw [en, tn (by omega)]
theorem p_goHoursL {o s : Nat} {lw : Law} {bd0 : Int32} (ho : o = 31 ∨ o = 39) : ∀ (n m i b : Nat) (M : Mem), Hl M o → Kd M → mR M o 1 = some s → Sq M s lw bd0 → Hb b (hC M o) → b + n ≤ 20000 → i + n ≤ 1000 →
    ∃ N, gX3_goHours_2 (m + n + 1) M o (nI (i + n)) (nI i) = some ((), N) ∧ Fr M N o ∧ hC N o = aHours lw bd0 n (hC M o) := by
  intro n
  induction n with
  | zero =>
    intro m i b M h hk hs hq hH hb hi
    refine ⟨M, ?_, Fr_r, rfl⟩
    rw [gX3_goHours_2_s, if_pos (by rw [leL (by omega) (by omega)]; omega)]
  | succ n ih =>
    intro m i b M h hk hs hq hH hb hi
    obtain ⟨N, k1, k2, k3⟩ := p_goHour ho h hk hs hq hH.1
    obtain ⟨P, p1, p2, p3⟩ := ih m (i + 1) (b + 1) N (Fr_Hl k2 h) (Fr_Kd k2 hk) (Fr_R k2 hs) (Fr_Sq (by omega) k2 hq) (by rw [k3]; exact (Hb_hour hH (by omega)).1) (by omega) (by omega)
    refine ⟨P, ?_, Fr_t k2 p2, ?_⟩
    · rw [show m + (n + 1) + 1 = (m + n + 1) + 1 by omega, gX3_goHours_2_s, if_neg (by rw [leL (by omega) (by omega)]; omega), h.1, ck_t, k1, bd_s, nI_1, show i + (n + 1) = i + 1 + n by omega]
      exact p1
    · rw [p3, k3]
      rfl
theorem p_goHours {o s n b : Nat} {lw : Law} {bd0 : Int32} (ho : o = 31 ∨ o = 39) {M : Mem} (h : Hl M o) (hk : Kd M) (hs : mR M o 1 = some s) (hq : Sq M s lw bd0) (hH : Hb b (hC M o)) (hb : b + n ≤ 20000) (hn : n ≤ 1000) :
    ∃ N, fX3_goHours M o (nI n) = some ((), N) ∧ Fr M N o ∧ hC N o = aHours lw bd0 n (hC M o) := by
  obtain ⟨m, hm⟩ := FUs n (by omega)
  obtain ⟨N, k1, k2, k3⟩ := p_goHoursL (s := s) (lw := lw) (bd0 := bd0) ho n m 0 b M h hk hs hq hH (by omega) (by omega)
  rw [← hm, Nat.zero_add] at k1
  exact ⟨N, k1, k2, k3⟩
def aGets (lw : Law) (bd : Int32) (p : Nat) (to : Int32) : Nat → Nat → Hall → Int32
  | 0, _, _ => -5
  | n + 1, i, H => if H 3 p = to then nI i else aGets lw bd p to n (i + 1) (aHour lw bd H)
theorem p_hoursToL {o s p : Nat} {to : Int32} {lw : Law} {bd0 : Int32} (ho : o = 31 ∨ o = 39) (hp : p < 6) : ∀ (n m i b : Nat) (M : Mem), Hl M o → Kd M → mR M o 1 = some s → Sq M s lw bd0 → Hb b (hC M o) → b + n ≤ 20000 → i + n = 41 →
    ∃ N, gX3_hoursTo_2 (m + n + 1) M o (nI p) to (nI i) = some (aGets lw bd0 p to n i (hC M o), N) ∧ Fr M N o := by
  intro n
  induction n with
  | zero =>
    intro m i b M h hk hs hq hH hb hi
    have : i = 41 := by omega
    subst this
    refine ⟨M, ?_, Fr_r⟩
    rw [gX3_hoursTo_2_s, if_pos (by decide)]
    rfl
  | succ n ih =>
    intro m i b M h hk hs hq hH hb hi
    obtain ⟨h0, h1, h2, h3, h4, h5, h6', h7, h8, h9, h10, h11, h12, h13, h14, h15, h16, h17, h18, h19, h20, h21, h22⟩ := id h
    have e3 : mI M (o + 4) p = hC M o 3 p := (hx_arr (b := o + 1) (k := 3) (by decide) hp).symm
    rw [show m + (n + 1) + 1 = (m + n + 1) + 1 by omega, gX3_hoursTo_2_s, if_neg (by rw [show (40 : Int32) = nI 40 from rfl, ltL (by omega) (by omega)]; omega)]
    simp only [h0, h5, h15, h16, inb_n hp (by decide : 6 < 1000000), tn (show p < 1000000 by omega), ck_t, rb_s, e3]
    unfold aGets
    by_cases he : hC M o 3 p = to
    · rw [if_pos he, if_pos he]
      exact ⟨M, rfl, Fr_r⟩
    · rw [if_neg he, if_neg he]
      obtain ⟨N, k1, k2, k3⟩ := p_goHour ho h hk hs hq hH.1
      obtain ⟨P, p1, p2⟩ := ih m (i + 1) (b + 1) N (Fr_Hl k2 h) (Fr_Kd k2 hk) (Fr_R k2 hs) (Fr_Sq (by omega) k2 hq) (by rw [k3]; exact (Hb_hour hH (by omega)).1) (by omega) (by omega)
      refine ⟨P, ?_, Fr_t k2 p2⟩
      rw [k1, bd_s, nI_1, p1, k3]
theorem p_hoursTo {o s p b : Nat} {to : Int32} {lw : Law} {bd0 : Int32} (ho : o = 31 ∨ o = 39) (hp : p < 6) {M : Mem} (h : Hl M o) (hk : Kd M) (hs : mR M o 1 = some s) (hq : Sq M s lw bd0) (hH : Hb b (hC M o)) (hb : b + 41 ≤ 20000) :
    ∃ N, fX3_hoursTo M o (nI p) to = some (aGets lw bd0 p to 41 0 (hC M o), N) ∧ Fr M N o := by
  obtain ⟨m, hm⟩ := FUs 41 (by decide)
  obtain ⟨N, k1, k2⟩ := p_hoursToL (s := s) (lw := lw) (bd0 := bd0) (to := to) ho hp 41 m 0 b M h hk hs hq hH hb rfl
  rw [← hm] at k1
  exact ⟨N, k1, k2⟩
def aBald (bd : Int32) (H : Hall) : Nat → Nat → Int32 → Int32
  | 0, _, acc => acc
  | n + 1, c, acc => aBald bd H n (c + 1) (if H 0 c < bd then acc else acc + 1)
def aWear (H : Hall) : Nat → Nat → Int32 → Int32
  | 0, _, acc => acc
  | n + 1, c, acc => aWear H n (c + 1) (acc + H 0 c)
def aMost (H : Hall) : Nat → Nat → Int32 → Int32
  | 0, _, acc => acc
  | n + 1, c, acc => aMost H n (c + 1) (if acc < H 0 c then H 0 c else acc)
def aOpen (bd : Int32) (H : Hall) : Nat → Nat → Int32 → Int32
  | 0, _, acc => acc
  | n + 1, c, acc => aOpen bd H n (c + 1) (if H 0 c < bd then acc ||| ((1 : Int32) <<< (nI c &&& 31)) else acc)
def aSpread (opn r : Int32) : Int32 := r ||| ((((r >>> ((5 : Int32) &&& 31)) ||| (r <<< ((5 : Int32) &&& 31))) ||| (((r &&& (-1082402 : Int32)) >>> ((1 : Int32) &&& 31)) ||| ((r &&& (-17318417 : Int32)) <<< ((1 : Int32) &&& 31)))) &&& opn)
def aStep (to opn : Int32) : Nat → Nat → Int32 → Int32
  | 0, _, _ => -5
  | n + 1, i, r => if ((r >>> (to &&& 31)) &&& (1 : Int32)) = (1 : Int32) then nI i else aStep to opn n (i + 1) (aSpread opn r)
theorem p_countBaldL {M : Mem} {o s : Nat} {lw : Law} {bd0 : Int32} (h : Hl M o) (hs : mR M o 1 = some s) (hq : Sq M s lw bd0) : ∀ (n m c : Nat) (acc : Int32), c + n = 25 → gX3_countBald_4 (m + n + 1) M o acc (nI c) = some (aBald bd0 (hC M o) n c acc, M) := by
  intro n
  induction n with
  | zero =>
    intro m c acc hc
    have : c = 25 := by omega
    subst this
    rw [gX3_countBald_4_s, if_pos (by decide)]
    rfl
  | succ n ih =>
    intro m c acc hc
    rw [show m + (n + 1) + 1 = (m + n + 1) + 1 by omega, gX3_countBald_4_s, if_neg (ge25 (by omega)), h.1, ck_t, p_isBald h hs hq (by omega), bd_s]
    unfold aBald gX3_countBald_21
    rw [nI_1]
    by_cases hb : hC M o 0 c < bd0
    · rw [if_pos hb, if_pos rfl, if_pos hb]
      exact ih m (c + 1) acc (by omega)
    · rw [if_neg hb, if_neg (by decide), if_neg hb]
      exact ih m (c + 1) (acc + 1) (by omega)
theorem p_countBald {M : Mem} {o s : Nat} {lw : Law} {bd0 : Int32} (h : Hl M o) (hs : mR M o 1 = some s) (hq : Sq M s lw bd0) : fX3_countBald M o = some (aBald bd0 (hC M o) 25 0 0, M) := by
  obtain ⟨m, hm⟩ := FUs 25 (by decide)
  have := p_countBaldL h hs hq 25 m 0 0 rfl
  rw [← hm] at this
  exact this
theorem p_wearOfAllL {M : Mem} {o : Nat} (h : Hl M o) : ∀ (n m c : Nat) (acc : Int32), c + n = 25 → gX3_wearOfAll_4 (m + n + 1) M o acc (nI c) = some (aWear (hC M o) n c acc, M) := by
  intro n
  induction n with
  | zero =>
    intro m c acc hc
    have : c = 25 := by omega
    subst this
    rw [gX3_wearOfAll_4_s, if_pos (by decide)]
    rfl
  | succ n ih =>
    intro m c acc hc
    obtain ⟨h0, h1, h2, -, -, -, -, -, -, h9, h10, -⟩ := id h
    have e : hC M o 0 c = mI M (o + 1) c := hx_arr (by decide) (show c < 25 by omega)
    rw [show m + (n + 1) + 1 = (m + n + 1) + 1 by omega, gX3_wearOfAll_4_s, if_neg (ge25 (by omega))]
    simp only [h0, h2, h9, h10, ck_t, rb_s, inb_n (show c < 25 by omega) (by decide), tn (show c < 1000000 by omega)]
    rw [nI_1]
    unfold aWear
    rw [e]
    exact ih m (c + 1) _ (by omega)
theorem p_wearOfAll {M : Mem} {o : Nat} (h : Hl M o) : fX3_wearOfAll M o = some (aWear (hC M o) 25 0 0, M) := by
  obtain ⟨m, hm⟩ := FUs 25 (by decide)
  have := p_wearOfAllL h 25 m 0 0 rfl
  rw [← hm] at this
  exact this
def aBeat (bd : Int32) (H : Hall) : Int32 := if bd = 0 then -5 else if 0 < aMost H 25 0 0 - bd + 1 then aMost H 25 0 0 - bd + 1 else 0
theorem p_beatingL {M : Mem} {o s : Nat} {lw : Law} {bd0 : Int32} (h : Hl M o) (hs : mR M o 1 = some s) (hq : Sq M s lw bd0) : ∀ (n m c : Nat) (acc : Int32), c + n = 25 → gX3_beating_17 (m + n + 1) M o acc (nI c) = some (if 0 < aMost (hC M o) n c acc - bd0 + 1 then aMost (hC M o) n c acc - bd0 + 1 else 0, M) := by
  intro n
  induction n with
  | zero =>
    intro m c acc hc
    have : c = 25 := by omega
    subst this
    rw [gX3_beating_17_s, if_pos (by decide), h.1, ck_t, hs, rb_s, hq.1, ck_t, hq.2.1]
    rfl
  | succ n ih =>
    intro m c acc hc
    obtain ⟨h0, h1, h2, -, -, -, -, -, -, h9, h10, -⟩ := id h
    have e : hC M o 0 c = mI M (o + 1) c := hx_arr (by decide) (show c < 25 by omega)
    rw [show m + (n + 1) + 1 = (m + n + 1) + 1 by omega, gX3_beating_17_s, if_neg (ge25 (by omega))]
    simp only [h0, h2, h9, h10, ck_t, rb_s, inb_n (show c < 25 by omega) (by decide), tn (show c < 1000000 by omega)]
    rw [nI_1]
    unfold aMost
    rw [e]
    exact ih m (c + 1) _ (by omega)
theorem p_beating {M : Mem} {o s : Nat} {lw : Law} {bd0 : Int32} (h : Hl M o) (hs : mR M o 1 = some s) (hq : Sq M s lw bd0) : fX3_beating M o = some (aBeat bd0 (hC M o), M) := by
  obtain ⟨m, hm⟩ := FUs 25 (by decide)
  have := p_beatingL h hs hq 25 m 0 0 rfl
  rw [← hm] at this
  unfold fX3_beating aBeat
  rw [h.1, ck_t, hs, rb_s, hq.1, ck_t, hq.2.1]
  split
  · rfl
  · exact this
theorem p_stepL {M : Mem} {to opn : Int32} : ∀ (n m i : Nat) (r : Int32), i + n = 25 → gX3_stepsTo_47 (m + n + 1) M to opn r (nI i) = some (aStep to opn n i r, M) := by
  intro n
  induction n with
  | zero =>
    intro m c acc hc
    have : c = 25 := by omega
    subst this
    rw [gX3_stepsTo_47_s, if_pos (by decide)]
    rfl
  | succ n ih =>
    intro m c acc hc
    rw [show m + (n + 1) + 1 = (m + n + 1) + 1 by omega, gX3_stepsTo_47_s, if_neg (ge25 (by omega)), nI_1]
    unfold aStep
    split
    · rfl
    · exact ih m (c + 1) _ (by omega)
theorem p_openL {M : Mem} {o s p : Nat} {to : Int32} {lw : Law} {bd0 : Int32} (h : Hl M o) (hs : mR M o 1 = some s) (hq : Sq M s lw bd0) (hp : p < 6) : ∀ (n m c : Nat) (acc : Int32), c + n = 25 → gX3_stepsTo_5 (m + n + 1) M o (nI p) to acc (nI c) = some (aStep to (aOpen bd0 (hC M o) n c acc) 25 0 ((1 : Int32) <<< (hC M o 3 p &&& 31)), M) := by
  intro n
  induction n with
  | zero =>
    intro m c acc hc
    have : c = 25 := by omega
    subst this
    obtain ⟨h0, h1, h2, h3, h4, h5, h6', h7, h8, h9, h10, h11, h12, h13, h14, h15, h16, h17, h18, h19, h20, h21, h22⟩ := id h
    have e3 : mI M (o + 4) p = hC M o 3 p := (hx_arr (b := o + 1) (k := 3) (by decide) hp).symm
    rw [gX3_stepsTo_5_s, if_pos (by decide)]
    simp only [h0, h5, h15, h16, inb_n hp (by decide : 6 < 1000000), tn (show p < 1000000 by omega), ck_t, rb_s, e3]
    obtain ⟨m, hm⟩ := FUs 25 (by decide)
    rw [hm]
    exact p_stepL 25 m 0 _ rfl
  | succ n ih =>
    intro m c acc hc
    rw [show m + (n + 1) + 1 = (m + n + 1) + 1 by omega, gX3_stepsTo_5_s, if_neg (ge25 (by omega)), h.1, ck_t, p_isBald h hs hq (by omega), bd_s]
    unfold aOpen gX3_stepsTo_28
    rw [nI_1]
    by_cases hb : hC M o 0 c < bd0
    · rw [if_pos hb, if_pos rfl, if_pos hb]
      exact ih m (c + 1) _ (by omega)
    · rw [if_neg hb, if_neg (by decide), if_neg hb]
      exact ih m (c + 1) _ (by omega)
theorem p_stepsTo {M : Mem} {o s p : Nat} {to : Int32} {lw : Law} {bd0 : Int32} (h : Hl M o) (hs : mR M o 1 = some s) (hq : Sq M s lw bd0) (hp : p < 6) : fX3_stepsTo M o (nI p) to = some (aStep to (aOpen bd0 (hC M o) 25 0 0) 25 0 ((1 : Int32) <<< (hC M o 3 p &&& 31)), M) := by
  obtain ⟨m, hm⟩ := FUs 25 (by decide)
  have := p_openL (to := to) h hs hq hp 25 m 0 0 rfl
  rw [← hm] at this
  exact this
/-! ===== class: one hall takes what another has ===== -/
def Ft (M N : Mem) (o s : Nat) : Prop := N.1 = (stR M o 1 (some s)).1 ∧ N.2.2 = M.2.2 ∧ ∀ a, a < o ∨ o + 8 ≤ a → N.2.1 a = M.2.1 a
