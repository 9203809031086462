/-! ===== from, can ===== -/
theorem SOk_of {M : Mem} {n : Nat} (h : Inv M n) : ∃ c, SOk c (sv M) ∧ CS M c (sv M) ∧ MS M c (sv M) := by
  obtain ⟨-, ⟨-, -, -, -, hs, hp, hb⟩, -, hl, -⟩ := id h
  obtain ⟨c, c5, ec, es, er, ev⟩ := id hs
  exact ⟨c, ⟨c5, ev⟩, ⟨ec, er⟩, ⟨es, fun i hi => ⟨(sv_70 hi).symm, (sv_71 hi).symm, (sv_72 hi).symm⟩⟩⟩
def aFrm (P : Nat → Bool) : Nat → Nat → Int32 → Int32
  | 0, _, acc => acc
  | n + 1, c, acc => if P c = true then aFrm P n (c + 1) (acc ||| ((1 : Int32) <<< (nI c &&& 31))) else aFrm P n (c + 1) acc
def aCan (y : Int32) (P : Nat → Bool) : Nat → Int32 → Int32 → Int32
  | 0, many, least => if y = 0 then many else least
  | k + 1, many, least => if P k = true then aCan y P k (many + 1) (nI k) else aCan y P k many least
/-- the trial with one number put otherwise -/
theorem p_tryP {M : Mem} {s k i : Nat} {x : Int32} {lw : Law} {bd c : Nat} {S : Nat → Int32} (o : Op M s lw bd) (ok : SOk c S) (hc : CS M c S) (hk : k < 6) (hi : i < hsz k) (hB : Hb 9999 (up2 (hM M) k i x)) : ∃ N, fX3_take M 39 31 = some ((), N) ∧ Sh N ∧ ∃ P, fX11_trialGoesAsSeen (stI N (40 + k) i x) 0 = some (if aSn lw (nI bd) S c 9 0 (up2 (hM M) k i x) = true then 1 else 0, P) ∧ Qc M P := by
  obtain ⟨N, n1, n2, n3, n4⟩ := p_try2 o
  have f : Fr N (stI N (40 + k) i x) 39 := Fr_stI (by omega)
  have hp : hC (stI N (40 + k) i x) 39 = up2 (hM M) k i x := by
    rw [← n3]
    exact hx_put (b := 40) (c := 39) hk hi (by decide)
  have t := Tr_Fr n4 f (b2 := 9999) (by rw [hp]; exact hB)
  have hcN : CS (stI N (40 + k) i x) c S := CS_c hc (fun b hb => by rw [row_st (by omega)]; exact n2.2.2 b (by omega))
  obtain ⟨P, p1, p2⟩ := p_goes ok t (by omega) hcN
  rw [hp] at p1
  exact ⟨N, n1, n4.1, P, p1, Qc_t n2 (Qc_Fr (Fr_t f p2))⟩
/-- the model with one number put otherwise, all laid back -/
theorem p_mtryP {M N : Mem} {k i : Nat} {x : Int32} {lw : Law} {bd0 : Int32} {c : Nat} {S : Nat → Int32} (hS : Sh M) (hq : Mq M lw bd0) (ok : SOk c S) (hc : MS M c S) (w : Wk M N 79) (qm : Qm M N) (hk : k < 6) (hi : i < hsz k) (hB : Hb 9999 (up2 (hM M) k i x)) : ∃ P, fX12_isSeen (stI N (56 + k) i x) 55 = some (if aSn lw bd0 S c 9 0 (up2 (hM M) k i x) = true then 1 else 0, P) ∧ Sh P ∧ ∃ Q, fX12_again P 55 79 = some ((), Q) ∧ Wk M Q 79 ∧ Qm M Q := by
  have hSN := Wk_Sh w hS
  have f : Fm N (stI N (56 + k) i x) := Fm_stI (Or.inl (by omega))
  have hp : hM (stI N (56 + k) i x) = up2 (hM M) k i x := by
    rw [← Qm_hM qm]
    exact hx_put (b := 56) (c := 55) hk hi (by decide)
  have hcN : MS N c S := by
    refine ⟨(Qm_f qm 24).trans hc.1, fun j hj => ?_⟩
    have a0 : mI N 70 j = mI M 70 j := by rw [← sv_70 hj, ← sv_70 hj]; exact qm.2 _ (by omega)
    have a1 : mI N 71 j = mI M 71 j := by rw [← sv_71 hj, ← sv_71 hj]; exact qm.2 _ (by omega)
    have a2 : mI N 72 j = mI M 72 j := by rw [← sv_72 hj, ← sv_72 hj]; exact qm.2 _ (by omega)
    rw [a0, a1, a2]
    exact hc.2 j hj
  obtain ⟨P, p1, p2⟩ := p_isSeen (b := 9999) ok (Fm_Sh f hSN) (Fm_Mq f (Wk_Mq w hq)) (by rw [hp]; exact hB) (by omega) (MS_Fm hcN f)
  rw [hp] at p1
  have wP := Wk_Fm w (Or.inl rfl) (Fm_t f p2)
  obtain ⟨Q, q1, q2, q3⟩ := Wk_back hS wP (Or.inl rfl)
  exact ⟨P, p1, Wk_Sh wP hS, Q, q1, ⟨q2.1, fun j hj => (congrFun (q3 79 (by omega)) j).trans (wP.2.1 j hj), Qm_f q2 15⟩, q2⟩
theorem p_fromL {s p c : Nat} {lw : Law} {bd : Nat} {S : Nat → Int32} {H : Hall} (ok : SOk c S) (hp : p < 6) : ∀ (k m i : Nat) (acc : Int32) (M : Mem), i + k = 25 → Op M s lw bd → hM M = H → CS M c S → ∃ N, gX11_from_14 (m + k + 1) M 0 (nI p) acc (nI i) = some (aFrm (fun v => aSn lw (nI bd) S c 9 0 (up2 H 3 p (nI v))) k i acc, N) ∧ Qc M N := by
  intro k
  induction k with
  | zero =>
    intro m i acc M hi o eh hc
    have : i = 25 := by omega
    subst this
    refine ⟨M, ?_, Qc_r⟩
    rw [gX11_from_14_s, if_pos (by decide)]
    rfl
  | succ k ih =>
    intro m i acc M hi o eh hc
    have hS := o.1
    have hB := o.2.2.2.2.2.1
    obtain ⟨N, n1, hSN, P, p1, p2⟩ := p_tryP (k := 3) (i := p) (x := nI i) o ok hc (by decide) hp ⟨Hok_cell hB.1 (by omega), hB.2⟩
    obtain ⟨o2, eh2⟩ := Op_qc o p2
    have hcP := CS_c (N := P) hc (fun b hb => p2.2.2 b (by omega))
    rw [eh] at p1
    rw [show m + (k + 1) + 1 = (m + k + 1) + 1 by omega, gX11_from_14_s, if_neg (ge25 (by omega))]
    simp only [k_0 hS, r_0_1 hS, r_0_0 hS, k_39 hS, ck_t, rb_s, n1, bd_s, k_0 hSN, r_0_1 hSN, k_39 hSN, r_39_7 hSN, k_43 hSN, g_43 hSN, inb_n hp (by decide : 6 < 1000000), tn (show p < 1000000 by omega)]
    have p1' : fX11_trialGoesAsSeen (stI N 43 p (nI i)) 0 = _ := p1
    rw [p1', bd_s]
    unfold gX11_from_54 aFrm
    simp only [nI_1]
    by_cases g : aSn lw (nI bd) S c 9 0 (up2 H 3 p (nI i)) = true
    · rw [if_pos g, if_neg (by decide), if_pos g]
      obtain ⟨Q, q1, q2⟩ := ih m (i + 1) (acc ||| ((1 : Int32) <<< (nI i &&& 31))) P (by omega) o2 (eh2.trans eh) hcP
      exact ⟨Q, q1, Qc_t p2 q2⟩
    · rw [if_neg g, if_pos rfl, if_neg g]
      obtain ⟨Q, q1, q2⟩ := ih m (i + 1) acc P (by omega) o2 (eh2.trans eh) hcP
      exact ⟨Q, q1, Qc_t p2 q2⟩
theorem p_mfromL {M : Mem} {p c : Nat} {lw : Law} {bd0 : Int32} {S : Nat → Int32} (hS : Sh M) (hq : Mq M lw bd0) (hB : Hb 9999 (hM M)) (ok : SOk c S) (hc : MS M c S) (hp : p < 6) : ∀ (k m i : Nat) (acc : Int32) (N : Mem), i + k = 25 → Wk M N 79 → Qm M N → ∃ P, gX12_from_22 (m + k + 1) N 55 (nI p) acc (nI i) = some (aFrm (fun v => aSn lw bd0 S c 9 0 (up2 (hM M) 3 p (nI v))) k i acc, P) ∧ Qm M P := by
  intro k
  induction k with
  | zero =>
    intro m i acc N hi w qm
    have : i = 25 := by omega
    subst this
    refine ⟨N, ?_, qm⟩
    rw [gX12_from_22_s, if_pos (by decide)]
    rfl
  | succ k ih =>
    intro m i acc N hi w qm
    have hSN := Wk_Sh w hS
    obtain ⟨P, p1, hSP, Q, q1, q2, q3⟩ := p_mtryP (k := 3) (i := p) (x := nI i) hS hq ok hc w qm (by decide) hp ⟨Hok_cell hB.1 (by omega), hB.2⟩
    have p1' : fX12_isSeen (stI N 59 p (nI i)) 55 = _ := p1
    rw [show m + (k + 1) + 1 = (m + k + 1) + 1 by omega, gX12_from_22_s, if_neg (ge25 (by omega))]
    simp only [k_55 hSN, r_55_4 hSN, k_59 hSN, g_59 hSN, ck_t, rb_s, inb_n hp (by decide : 6 < 1000000), tn (show p < 1000000 by omega), p1', bd_s]
    unfold gX12_from_48 aFrm
    simp only [k_55 hSP, r_55_38 hSP, ck_t, rb_s, q1, bd_s, nI_1]
    by_cases g : aSn lw bd0 S c 9 0 (up2 (hM M) 3 p (nI i)) = true
    · rw [if_pos g, if_neg (by decide), if_pos g]
      exact ih m (i + 1) _ Q (by omega) q2 q3
    · rw [if_neg g, if_pos rfl, if_neg g]
      exact ih m (i + 1) _ Q (by omega) q2 q3
theorem m_from {M : Mem} {n : Nat} (h : Inv M n) (x : Int32) : Ok1 (fun M => fX11_from M 0 x) (fun M => fX12_from M 55 x) M := by
  obtain ⟨s, lw, bd, o⟩ := Op_of h
  obtain ⟨q, hq, e1, e2⟩ := Op_n o
  have hS := o.1
  obtain ⟨c, ok, hc, hm⟩ := SOk_of h
  rcases cs_person hq x with ⟨p, hp, hp6, rfl, c1, m1⟩ | ⟨c0, m0⟩
  · obtain ⟨m, hmF⟩ := FUs 25 (by decide)
    obtain ⟨N, n1, n2⟩ := p_fromL (s := s) (lw := lw) (bd := bd) ok hp6 25 m 0 0 M rfl o rfl hc
    rw [← hmF] at n1
    obtain ⟨o2, eh⟩ := Op_qc o n2
    have hmN : MS N c (sv M) := MS_c hm (congrFun (n2.2.2 55 (by omega)) 24) (fun b hb => n2.2.2 b (by omega))
    obtain ⟨A, a1, a2, a3, a4⟩ := Wk_0 o2.1 (Or.inl rfl)
    have qA : Qm N A := ⟨a2.1, fun j hj => by
      have := src_row j hj
      exact congrFun (a4 _ (by omega)) _⟩
    obtain ⟨P, p1, p2⟩ := p_mfromL o2.1 (Op_Mq o2) o2.2.2.2.2.2.1 ok hmN hp6 25 m 0 0 A rfl a2 qA
    rw [← hmF, eh] at p1
    refine Ok_q h (N := N) ?_ n2 ⟨P, ?_, p2⟩ (a := aFrm (fun v => aSn lw (nI bd) (sv M) c 9 0 (up2 (hM M) 3 p (nI v))) 25 0 0)
    · simp only [fX11_from, k_0 hS, ck_t, c1 M hS e1, bd_s, show ¬ (1 : Int32) = 0 by decide, if_false]
      exact n1
    · have e2' : mI N 55 1 = nI q := by rw [hM_p, eh]; exact e2
      simp only [fX12_from, k_55 o2.1, ck_t, m1 N o2.1 e2', bd_s, show ¬ (1 : Int32) = 0 by decide, if_false, r_55_38 o2.1, rb_s, a1]
      exact p1
  · refine Ok_m h (a := -1) ?_ ?_
    · simp only [fX11_from, k_0 hS, ck_t, c0 M hS e1, bd_s, if_true]
    · simp only [fX12_from, k_55 hS, ck_t, m0 M hS e2, bd_s, if_true]
