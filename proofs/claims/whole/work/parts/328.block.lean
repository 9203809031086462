/-! ===== block ===== -/
def aLate (g : Int32) : Int32 := if g = -5 then 41 else g
def aBlk (lw : Law) (bd : Int32) (p : Nat) (to : Int32) (H : Hall) : Nat → Nat → Int32 → Int32 → Int32
  | 0, _, _, block => block
  | n + 1, c, late, block => if 40 < late then block else if nI c = to then aBlk lw bd p to H n (c + 1) late block else if nI c = H 3 p then aBlk lw bd p to H n (c + 1) late block else if aLate (aGets lw bd p to 41 0 (up2 H 0 c 99)) ≤ late then aBlk lw bd p to H n (c + 1) late block else aBlk lw bd p to H n (c + 1) (aLate (aGets lw bd p to 41 0 (up2 H 0 c 99))) (nI c)
theorem aBlk_41 {lw : Law} {bd : Int32} {p : Nat} {to : Int32} {H : Hall} (n c : Nat) (block : Int32) : aBlk lw bd p to H n c (nI 41) block = block := by
  cases n with
  | zero => rfl
  | succ n =>
    unfold aBlk
    rw [if_pos (by decide)]
theorem t_hoursTo {M : Mem} {s p : Nat} {to : Int32} {lw : Law} {bd b : Nat} (h : Tr M s lw bd b) (hp : p < 6) (hb : b + 41 ≤ 20000) : ∃ N, fX3_hoursTo M 39 (nI p) to = some (aGets lw (nI bd) p to 41 0 (hC M 39), N) ∧ Fr M N 39 :=
  p_hoursTo (s := s) (lw := lw) (bd0 := nI bd) (Or.inr rfl) hp (Hl_39 h.1) (Kd_s h.1) h.2.1 h.2.2.1 h.2.2.2 hb
theorem p_late {M : Mem} {x : Int32} : fX11_orTooLate M x = some (aLate x, M) := by
  unfold fX11_orTooLate aLate
  split <;> rfl
theorem Hb_99 {b c : Nat} {H : Hall} (h : Hb b H) (hc : c < 25) : Hb b (up2 H 0 c 99) := ⟨Hok_wear (w := 99) h.1 hc (by omega), h.2⟩
theorem p_blkL {s p q : Nat} {to : Int32} {lw : Law} {bd : Nat} {H : Hall} (hp : p < 6) (hq : q ≤ 6) : ∀ (n m c : Nat) (late block : Int32) (M : Mem), c + n = 25 → Op M s lw bd → hM M = H → H 6 1 = nI q → ∃ N, gX11_blockOf_25 (m + n + 1) M 0 (nI p) to late block (nI c) = some (aBlk lw (nI bd) p to (aAlone p q 0 H) n c late block, N) ∧ Qc M N := by
  intro n
  induction n with
  | zero =>
    intro m c late block M hc o eH eq
    have : c = 25 := by omega
    subst this
    refine ⟨M, ?_, Qc_r⟩
    rw [gX11_blockOf_25_s, if_pos (by decide)]
    rfl
  | succ n ih =>
    intro m c late block M hc o eH eq
    have hS := o.1
    rw [show m + (n + 1) + 1 = (m + n + 1) + 1 by omega, gX11_blockOf_25_s, if_neg (ge25 (by omega))]
    unfold aBlk
    by_cases l4 : 40 < late
    · rw [if_pos l4, if_pos l4]
      exact ⟨M, rfl, Qc_r⟩
    rw [if_neg l4, if_neg l4]
    unfold gX11_blockOf_105
    rw [nI_1]
    by_cases ct : nI c = to
    · rw [if_pos ct, if_pos ct]
      exact ih m (c + 1) late block M (by omega) o eH eq
    rw [if_neg ct, if_neg ct]
    have e3 : mI M 35 p = aAlone p q 0 H 3 p := by
      rw [cm_3 o.2.2.2.2.1 hp, hM_3 hp, eH, aAlone_k (by decide)]
    simp only [k_0 hS, r_0_0 hS, k_31 hS, r_31_7 hS, k_35 hS, g_35 hS, ck_t, rb_s, inb_n hp (by decide : 6 < 1000000), tn (show p < 1000000 by omega), e3]
    by_cases cp : nI c = aAlone p q 0 H 3 p
    · rw [if_pos cp, if_pos cp]
      exact ih m (c + 1) late block M (by omega) o eH eq
    rw [if_neg cp, if_neg cp]
    obtain ⟨N, n1, n2, n3, n4⟩ := p_alone o hp hq (show mI M 55 1 = nI q by rw [hM_p, eH]; exact eq)
    have hSN := n4.1
    rw [eH] at n3
    have hput : hC (stI N 40 c 99) 39 = up2 (aAlone p q 0 H) 0 c 99 := by
      rw [← n3]
      exact hx_put (b := 40) (c := 39) (k := 0) (by decide) (show c < 25 by omega) (by decide)
    have fr : Fr N (stI N 40 c 99) 39 := Fr_stI (by decide)
    have t2 : Tr (stI N 40 c 99) s lw bd 9999 := Tr_Fr n4 fr (by rw [hput, ← n3]; exact Hb_99 n4.2.2.2 (by omega))
    obtain ⟨P, p1, p2⟩ := t_hoursTo (to := to) t2 hp (by omega)
    rw [hput] at p1
    have qc : Qc M P := Qc_t n2 (Qc_Fr (Fr_t fr p2))
    obtain ⟨o2, eh⟩ := Op_qc o qc
    simp only [n1, bd_s, k_0 hSN, r_0_1 hSN, k_39 hSN, r_39_3 hSN, k_40 hSN, g_40 hSN, ck_t, rb_s, inb_n (show c < 25 by omega) (by decide), tn (show c < 1000000 by omega), p1, p_late]
    by_cases le : aLate (aGets lw (nI bd) p to 41 0 (up2 (aAlone p q 0 H) 0 c 99)) ≤ late
    · rw [if_pos le, if_pos le]
      obtain ⟨Q, q1, q2⟩ := ih m (c + 1) late block P (by omega) o2 (eh.trans eH) eq
      exact ⟨Q, q1, Qc_t qc q2⟩
    · rw [if_neg le, if_neg le]
      obtain ⟨Q, q1, q2⟩ := ih m (c + 1) (aLate (aGets lw (nI bd) p to 41 0 (up2 (aAlone p q 0 H) 0 c 99))) (nI c) P (by omega) o2 (eh.trans eH) eq
      exact ⟨Q, q1, Qc_t qc q2⟩
/-- what block answers -/
def aBlock (lw : Law) (bd : Int32) (p q : Nat) (to : Int32) (H : Hall) : Int32 := aBlk lw bd p to (aAlone p q 0 H) 25 0 (aLate (aGets lw bd p to 41 0 (aAlone p q 0 H))) (-5)
theorem p_block {M : Mem} {s p q : Nat} {to : Int32} {lw : Law} {bd : Nat} (o : Op M s lw bd) (hp : p < 6) (hq : q ≤ 6) (eq : hM M 6 1 = nI q) : ∃ N, fX11_blockOf M 0 (nI p) to = some (aBlock lw (nI bd) p q to (hM M), N) ∧ Qc M N := by
  have hS := o.1
  obtain ⟨N, n1, n2, n3, n4⟩ := p_alone o hp hq eq
  have hSN := n4.1
  obtain ⟨P, p1, p2⟩ := t_hoursTo (to := to) n4 hp (by omega)
  rw [n3] at p1
  have qc : Qc M P := Qc_t n2 (Qc_Fr p2)
  obtain ⟨o2, eh⟩ := Op_qc o qc
  obtain ⟨m, hm⟩ := FUs 25 (by decide)
  obtain ⟨Q, q1, q2⟩ := p_blkL (to := to) hp hq 25 m 0 (aLate (aGets lw (nI bd) p to 41 0 (aAlone p q 0 (hM M)))) (-5) P rfl o2 eh eq
  rw [← hm] at q1
  refine ⟨Q, ?_, Qc_t qc q2⟩
  simp only [fX11_blockOf, k_0 hS, n1, bd_s, k_0 hSN, r_0_1 hSN, k_39 hSN, ck_t, rb_s, p1, p_late]
  exact q1
/-! ===== the model's block ===== -/
def mst (l : Nat) : Int32 := if l = 41 then 99 else nI l
theorem p_mblkL {M0 : Mem} {p : Nat} {to : Int32} {lw : Law} {bd : Int32} {H : Hall} (hS0 : Sh M0) (hq : Mq M0 lw bd) (hp : p < 6) (hB : Hb 9999 H) : ∀ (n m c l : Nat) (block : Int32) (N : Mem), c + n = 25 → l ≤ 41 → Wk M0 N 80 → hM N = H → ∃ P, gX12_block_64 (m + n + 1) N 55 (nI p) to (mst l) block (nI c) = some (aBlk lw bd p to H n c (nI l) block, P) ∧ Qm M0 P := by
  intro n
  induction n with
  | zero =>
    intro m c l block N hc hl w eH
    have : c = 25 := by omega
    subst this
    have hS := Wk_Sh w hS0
    obtain ⟨P, p1, p2, -⟩ := Wk_back hS0 w (Or.inr rfl)
    refine ⟨P, ?_, p2⟩
    rw [gX12_block_64_s, if_pos (by decide), k_55 hS, ck_t, r_55_39 hS, rb_s, p1, bd_s]
    rfl
  | succ n ih =>
    intro m c l block N hc hl w eH
    have hS := Wk_Sh w hS0
    have hqN := Wk_Mq w hq
    rw [show m + (n + 1) + 1 = (m + n + 1) + 1 by omega, gX12_block_64_s, if_neg (ge25 (by omega))]
    unfold aBlk
    have skip : ∀ (N : Mem), Wk M0 N 80 → hM N = H → ∃ P, gX12_block_64 (m + n + 1) N 55 (nI p) to (mst l) block (nI (c + 1)) = some ((if 40 < nI l then block else aBlk lw bd p to H n (c + 1) (nI l) block), P) ∧ Qm M0 P := by
      intro N w eH
      obtain ⟨P, p1, p2⟩ := ih m (c + 1) l block N (by omega) hl w eH
      refine ⟨P, ?_, p2⟩
      rw [p1]
      by_cases l4 : l = 41
      · subst l4
        rw [if_pos (by decide), aBlk_41]
      · rw [if_neg (by rw [show (40 : Int32) = nI 40 from rfl, ltL (by omega) (by omega)]; omega)]
    unfold gX12_block_155
    rw [nI_1]
    by_cases ct : nI c = to
    · rw [if_pos ct, if_pos ct]
      exact skip N w eH
    rw [if_neg ct, if_neg ct]
    simp only [k_55 hS, r_55_4 hS, k_59 hS, g_59 hS, ck_t, rb_s, inb_n hp (by decide : 6 < 1000000), tn (show p < 1000000 by omega), hM_3 hp, eH]
    by_cases cp : nI c = H 3 p
    · rw [if_pos cp, if_pos cp]
      exact skip N w eH
    rw [if_neg cp, if_neg cp]
    have c25 : c < 25 := by omega
    have w2 : Wk M0 (stI N 56 c 99) 80 := Wk_st w (Or.inr rfl) (by decide)
    have hput : hM (stI N 56 c 99) = up2 H 0 c 99 := by rw [hM_s0 c25, eH]
    obtain ⟨P, p1, p2, p3⟩ := p_mgets (to := to) (Wk_Sh w2 hS0) (Wk_Mq w2 hq) (show Hb 9999 (hM (stI N 56 c 99)) by rw [hput]; exact Hb_99 hB c25) (by omega) hp
    have hSP : Sh P := Sh_1 p2.1.1 (Wk_Sh w2 hS0)
    rw [hput] at p1
    have w3 : Wk M0 (stI P 56 c (H 0 c)) 80 := by
      have : Wk M0 P 80 := ⟨Wm_t w2.1 p2.1, fun j hj => (congrFun (p3 80 (by omega)) j).trans (w2.2.1 j hj), (Qm_f p2 15).trans w2.2.2⟩
      exact Wk_st this (Or.inr rfl) (by decide)
    have eH3 : hM (stI P 56 c (H 0 c)) = H := by
      rw [hM_s0 c25, Qm_hM p2, hput]
      funext k i
      unfold up2
      by_cases hh : k = 0 ∧ i = c
      · rw [if_pos hh, hh.1, hh.2]
      · rw [if_neg hh, if_neg hh]
    simp only [r_55_0 hS, k_56 hS, g_56 hS, ck_t, rb_s, inb_n c25 (by decide : 25 < 1000000), tn (show c < 1000000 by omega), p1, bd_s, k_55 hSP, r_55_0 hSP, k_56 hSP, g_56 hSP, hM_0 c25, eH]
    unfold gX12_block_137 gX12_block_155
    rw [nI_1]
    rcases aGets_in (lw := lw) (bd := bd) (p := p) (to := to) 41 0 (up2 H 0 c 99) rfl with g | ⟨k, hk, g⟩
    · rw [g, if_pos rfl, show aLate (-5) = nI 41 from rfl]
      by_cases l4 : l = 41
      · subst l4
        rw [if_neg (by decide), if_pos (show (40 : Int32) < nI 41 by decide)]
        have := skip _ w3 eH3
        rw [if_pos (show (40 : Int32) < nI 41 by decide)] at this
        exact this
      · have lt : mst l < 99 := by
          unfold mst
          rw [if_neg l4, show (99 : Int32) = nI 99 from rfl, ltL (by omega) (by omega)]
          omega
        rw [if_pos lt, if_neg (by rw [show (40 : Int32) = nI 40 from rfl, ltL (by omega) (by omega)]; omega), if_neg (by rw [leL (by omega) (by omega)]; omega)]
        exact ih m (c + 1) 41 (nI c) _ (by omega) (by omega) w3 eH3
    · rw [g, if_neg (ne_m5 (by omega)), show aLate (nI k) = nI k from if_neg (ne_m5 (by omega))]
      by_cases l4 : l = 41
      · subst l4
        rw [if_neg (by unfold mst; rw [if_pos rfl, show (99 : Int32) = nI 99 from rfl, ltL (by omega) (by omega)]; omega), if_pos (show (40 : Int32) < nI 41 by decide)]
        have := skip _ w3 eH3
        rw [if_pos (show (40 : Int32) < nI 41 by decide)] at this
        exact this
      · rw [if_neg (show ¬ (40 : Int32) < nI l by rw [show (40 : Int32) = nI 40 from rfl, ltL (by omega) (by omega)]; omega)]
        have em : mst l = nI l := if_neg l4
        by_cases kl : k ≤ l
        · rw [if_neg (by rw [em, ltL (by omega) (by omega)]; omega), if_pos (by rw [leL (by omega) (by omega)]; exact kl)]
          exact ih m (c + 1) l block _ (by omega) hl w3 eH3
        · rw [if_pos (by rw [em, ltL (by omega) (by omega)]; omega), if_neg (by rw [leL (by omega) (by omega)]; exact kl)]
          have := ih m (c + 1) k (nI c) _ (by omega) (by omega) w3 eH3
          rw [show mst k = nI k from if_neg (by omega)] at this
          exact this
theorem p_maloneL {p q : Nat} {to : Int32} (hp : p < 6) : ∀ (n m i : Nat) (M : Mem), Sh M → mI M 55 1 = nI (i + n) → i + n ≤ 6 → ∃ N, gX12_block_10 (m + n + 1) M 55 (nI p) to (nI i) = (@bd Int32 (Int32 × Mem) (fX12_gets N 55 (nI p) to) fun x5 M5 => if x5 = (-5 : Int32) then (gX12_block_55 M5 55 (nI p) to (99 : Int32)) else (gX12_block_55 M5 55 (nI p) to x5)) ∧ Fm M N ∧ hM N = aAlone p n i (hM M) := by
  intro n
  induction n with
  | zero =>
    intro m i M h e hn
    refine ⟨M, ?_, Fm_r, rfl⟩
    rw [gX12_block_10_s, k_55 h, ck_t, e, if_pos (by rw [leL (by omega) (by omega)]; exact Nat.le_refl _)]
  | succ n ih =>
    intro m i M h e hn
    rw [show m + (n + 1) + 1 = (m + n + 1) + 1 by omega, gX12_block_10_s, k_55 h, ck_t, e, if_neg (by rw [leL (by omega) (by omega)]; omega)]
    unfold aAlone gX12_block_30
    simp only [nI_1]
    by_cases hqp : i = p
    · rw [if_pos (by rw [hqp]), if_pos hqp]
      exact ih m (i + 1) M h (by rw [e]; congr 1; omega) (by omega)
    · rw [if_neg (by rw [eqL (by omega) (by omega)]; exact hqp), if_neg hqp]
      simp only [r_55_5 h, k_60 h, g_60 h, ck_t, rb_s, inb_n (show i < 6 by omega) (by decide), tn (show i < 1000000 by omega)]
      have f : Fm M (stI M 60 i 1) := Fm_stI (Or.inl (by decide))
      obtain ⟨N, n1, n2, n3⟩ := ih m (i + 1) (stI M 60 i 1) (Sh_1 rfl h) (by rw [show i + 1 + n = i + (n + 1) by omega]; exact e) (by omega)
      exact ⟨N, n1, Fm_t f n2, by rw [n3, hM_s4 (by omega)]⟩
theorem p_mblock {M : Mem} {s p q : Nat} {to : Int32} {lw : Law} {bd : Nat} (o : Op M s lw bd) (hp : p < 6) (hq : q ≤ 6) (eq : hM M 6 1 = nI q) : ∃ P, fX12_block M 55 (nI p) to = some (aBlock lw (nI bd) p q to (hM M), P) ∧ Qm M P := by
  have hS := o.1
  have oM := Op_Mq o
  obtain ⟨N, n1, n2, n3, -⟩ := Wk_0 hS (Or.inr rfl)
  obtain ⟨m, hm⟩ := FUs q (by omega)
  obtain ⟨P, p1, p2, p3⟩ := p_maloneL (q := q) (to := to) hp q m 0 N (Wk_Sh n2 hS) (by rw [hM_p, n3, Nat.zero_add]; exact eq) (by omega)
  rw [← hm] at p1
  rw [n3] at p3
  have w := Wk_Fm n2 (Or.inr rfl) p2
  have hB : Hb 9999 (aAlone p q 0 (hM M)) := Hb_alone _ _ _ o.2.2.2.2.2.1
  obtain ⟨Q, q1, q2, q3⟩ := p_mgets (to := to) (Wk_Sh w hS) (Wk_Mq w oM) (show Hb 9999 (hM P) by rw [p3]; exact hB) (by omega) hp
  rw [p3] at q1
  have w2 : Wk M Q 80 := ⟨Wm_t w.1 q2.1, fun j hj => (congrFun (q3 80 (by omega)) j).trans (w.2.1 j hj), (Qm_f q2 15).trans w.2.2⟩
  have eQ : hM Q = aAlone p q 0 (hM M) := (Qm_hM q2).trans p3
  obtain ⟨m', hm'⟩ := FUs 25 (by decide)
  unfold fX12_block
  rw [k_55 hS, ck_t, r_55_39 hS, rb_s, n1, bd_s, show (0 : Int32) = nI 0 from rfl, p1, q1]
  unfold aBlock gX12_block_55
  rw [hm']
  show ∃ P, (if aGets lw (nI bd) p to 41 0 (aAlone p q 0 (hM M)) = -5 then _ else _) = _ ∧ _
  rcases aGets_in (lw := lw) (bd := nI bd) (p := p) (to := to) 41 0 (aAlone p q 0 (hM M)) rfl with g | ⟨k, hk, g⟩
  · rw [g, if_pos rfl, show aLate (-5) = nI 41 from rfl]
    exact p_mblkL hS oM hp hB 25 m' 0 41 (-5) Q rfl (by omega) w2 eQ
  · rw [g, if_neg (ne_m5 (by omega)), show aLate (nI k) = nI k from if_neg (ne_m5 (by omega))]
    have := p_mblkL (to := to) hS oM hp hB 25 m' 0 k (-5) Q rfl (by omega) w2 eQ
    rw [show mst k = nI k from if_neg (by omega)] at this
    exact this
