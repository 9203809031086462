/-! ===== what a call is given ===== -/
def Ok1 {α : Type} (f g : Mem → Option (α × Mem)) (M : Mem) : Prop := ∃ a N P n, isK N 55 12 = true ∧ f M = some (a, N) ∧ g N = some (a, P) ∧ Inv P n
theorem Ok_m {α : Type} {f g : Mem → Option (α × Mem)} {M : Mem} {n : Nat} {a : α} (h : Inv M n) (hf : f M = some (a, M)) (hg : g M = some (a, M)) : Ok1 f g M := ⟨a, M, M, n, k_55 h.1, hf, hg, h⟩
theorem Ok_q {α : Type} {f g : Mem → Option (α × Mem)} {M N : Mem} {n : Nat} {a : α} (h : Inv M n) (hf : f M = some (a, N)) (q : Qc M N) (hg : ∃ P, g N = some (a, P) ∧ Qm N P) : Ok1 f g M := by
  obtain ⟨P, p1, p2⟩ := hg
  exact ⟨a, N, P, n, k_55 (Qc_Sh q h.1), hf, p1, Inv_qm (Inv_qc h q) p2⟩
theorem i32_pos {x : Int32} (h : ¬ x < 0) : ∃ k : Nat, x.toInt = k := by
  rw [Int32.lt_iff_toInt_lt] at h
  have h0 : (0 : Int32).toInt = 0 := rfl
  exact ⟨x.toInt.toNat, by omega⟩
theorem i32_nI {x : Int32} {k : Nat} (h : x.toInt = k) : x = nI k := by
  apply Int32.toInt_inj.mp
  rw [h, nI_toInt]
  have := x.toInt_lt
  omega
/-- from 0 to below n, or too small, or too large -/
theorem rng {L K : Int32} {n : Nat} (x : Int32) (hL : L = nI n) (hK : K = nI (n - 1)) (hn : 0 < n ∧ n < 1000000) :
    (∃ k, k < n ∧ x = nI k ∧ ¬ x < 0 ∧ ¬ L ≤ x ∧ x < L ∧ x ≤ K ∧ ¬ K < x) ∨ x < 0 ∨ (¬ x < 0 ∧ L ≤ x ∧ ¬ x < L ∧ ¬ x ≤ K ∧ K < x) := by
  by_cases h0 : x < 0
  · exact Or.inr (Or.inl h0)
  · obtain ⟨k, hk⟩ := i32_pos h0
    have e := i32_nI hk
    have tL : L.toInt = n := by rw [hL, nI_toInt (by omega)]
    have tK : K.toInt = (n - 1 : Nat) := by rw [hK, nI_toInt (by omega)]
    simp only [Int32.lt_iff_toInt_lt, Int32.le_iff_toInt_le] at *
    rw [hk, tL, tK]
    by_cases hkn : k < n
    · exact Or.inl ⟨k, hkn, e, by omega, by omega, by omega, by omega, by omega⟩
    · exact Or.inr (Or.inr ⟨by omega, by omega, by omega, by omega, by omega⟩)
theorem cs_cell (x : Int32) : (∃ c, c < 25 ∧ x = nI c ∧ (∀ M, fX11_isCell M x = some (1, M)) ∧ ∀ M, fX12_isCell M x = some (1, M)) ∨ ((∀ M, fX11_isCell M x = some (0, M)) ∧ ∀ M, fX12_isCell M x = some (0, M)) := by
  rcases rng (L := 25) (K := 24) (n := 25) x rfl rfl (by decide) with ⟨c, hc, e, h1, h2, h3, h4, h5⟩ | h1 | ⟨h1, h2, h3, h4, h5⟩
  · refine Or.inl ⟨c, hc, e, fun M => ?_, fun M => ?_⟩
    · unfold fX11_isCell
      rw [if_neg h1, if_neg h2]
    · unfold fX12_isCell fX12_within
      rw [if_neg h1, if_neg h5, bd_s]
      rfl
  · refine Or.inr ⟨fun M => ?_, fun M => ?_⟩
    · unfold fX11_isCell
      rw [if_pos h1]
    · unfold fX12_isCell fX12_within
      rw [if_pos h1, bd_s]
      rfl
  · refine Or.inr ⟨fun M => ?_, fun M => ?_⟩
    · unfold fX11_isCell
      rw [if_neg h1, if_pos h2]
    · unfold fX12_isCell fX12_within
      rw [if_neg h1, if_pos h5, bd_s]
      rfl
theorem wi_1 {x L K : Int32} {M : Mem} (h1 : ¬ x < 0) (h5 : ¬ K < x) : fX12_within M x 0 K = some (1, M) := by
  unfold fX12_within
  rw [if_neg h1, if_neg h5]
theorem wi_0 {x K : Int32} {M : Mem} (h1 : x < 0) : fX12_within M x 0 K = some (0, M) := by
  unfold fX12_within
  rw [if_pos h1]
theorem wi_2 {x K : Int32} {M : Mem} (h5 : K < x) : fX12_within M x 0 K = some (0, M) := by
  unfold fX12_within
  by_cases h1 : x < 0
  · rw [if_pos h1]
  · rw [if_neg h1, if_pos h5]
theorem n_sub1 {n : Nat} {x : Int32} (h0 : ¬ x < 0) (hn : n ≤ 1000) : nI n - 1 < x ↔ nI n ≤ x := by
  obtain ⟨k, hk⟩ := i32_pos h0
  have t1 : (nI n).toInt = n := nI_toInt (by omega)
  by_cases h : n = 0
  · subst h
    rw [Int32.lt_iff_toInt_lt, Int32.le_iff_toInt_le, hk, t1, show (nI 0 - 1 : Int32).toInt = -1 by decide]
    omega
  · have e : nI n - 1 = nI (n - 1) := by
      rw [show nI n = nI (n - 1) + 1 by rw [nI_1]; congr 1; omega]
      exact Int32.add_sub_cancel _ _
    rw [e, Int32.lt_iff_toInt_lt, Int32.le_iff_toInt_le, hk, t1, nI_toInt (by omega)]
    omega
theorem cs_person {n : Nat} (hn : n ≤ 6) (x : Int32) : (∃ p, p < n ∧ p < 6 ∧ x = nI p ∧ (∀ N, Sh N → mI N 31 4 = nI n → fX11_isPerson N 0 x = some (1, N)) ∧ ∀ N, Sh N → mI N 55 1 = nI n → fX12_isOne N 55 x = some (1, N)) ∨ ((∀ N, Sh N → mI N 31 4 = nI n → fX11_isPerson N 0 x = some (0, N)) ∧ ∀ N, Sh N → mI N 55 1 = nI n → fX12_isOne N 55 x = some (0, N)) := by
  have cc : ∀ N, Sh N → mI N 31 4 = nI n → fX11_isPerson N 0 x = if x < 0 then some (0, N) else if nI n ≤ x then some (0, N) else some (1, N) := by
    intro N h e
    unfold fX11_isPerson
    rw [k_0 h, ck_t, r_0_0 h, rb_s, k_31 h, ck_t, e]
  have mm : ∀ N, Sh N → mI N 55 1 = nI n → fX12_isOne N 55 x = if x < 0 then some (0, N) else if nI n - 1 < x then some (0, N) else some (1, N) := by
    intro N h e
    unfold fX12_isOne fX12_within
    rw [k_55 h, ck_t, e]
    split
    · rfl
    · split
      · rfl
      · rfl
  by_cases h0 : x < 0
  · exact Or.inr ⟨fun N h e => by rw [cc N h e, if_pos h0], fun N h e => by rw [mm N h e, if_pos h0]⟩
  · by_cases h1 : nI n ≤ x
    · exact Or.inr ⟨fun N h e => by rw [cc N h e, if_neg h0, if_pos h1], fun N h e => by rw [mm N h e, if_neg h0, if_pos ((n_sub1 h0 (by omega)).mpr h1)]⟩
    · obtain ⟨k, hk⟩ := i32_pos h0
      have e := i32_nI hk
      have hkn : k < n := by
        rw [Int32.le_iff_toInt_le, hk, nI_toInt (by omega)] at h1
        omega
      exact Or.inl ⟨k, hkn, by omega, e, fun N h e => by rw [cc N h e, if_neg h0, if_neg h1], fun N h e => by rw [mm N h e, if_neg h0, if_neg (fun hh => h1 ((n_sub1 h0 (by omega)).mp hh))]⟩
/-! ===== class and model have one hall ===== -/
theorem cm_0 {M : Mem} (e : hC M 31 = hM M) {c : Nat} (h : c < 25) : mI M 32 c = mI M 56 c := by
  rw [hM_0 h, ← e]
  exact (hx_arr (b := 32) (k := 0) (by decide) h).symm
theorem cm_1 {M : Mem} (e : hC M 31 = hM M) {c : Nat} (h : c < 6) : mI M 33 c = mI M 57 c := by
  rw [hM_1 h, ← e]
  exact (hx_arr (b := 32) (k := 1) (by decide) h).symm
theorem cm_2 {M : Mem} (e : hC M 31 = hM M) {c : Nat} (h : c < 6) : mI M 34 c = mI M 58 c := by
  rw [hM_2 h, ← e]
  exact (hx_arr (b := 32) (k := 2) (by decide) h).symm
theorem cm_3 {M : Mem} (e : hC M 31 = hM M) {c : Nat} (h : c < 6) : mI M 35 c = mI M 59 c := by
  rw [hM_3 h, ← e]
  exact (hx_arr (b := 32) (k := 3) (by decide) h).symm
theorem cm_4 {M : Mem} (e : hC M 31 = hM M) {c : Nat} (h : c < 6) : mI M 36 c = mI M 60 c := by
  rw [hM_4 h, ← e]
  exact (hx_arr (b := 32) (k := 4) (by decide) h).symm
theorem cm_5 {M : Mem} (e : hC M 31 = hM M) {c : Nat} (h : c < 24) : mI M 37 c = mI M 61 c := by
  rw [hM_5 h, ← e]
  exact (hx_arr (b := 32) (k := 5) (by decide) h).symm
theorem cm_h {M : Mem} (e : hC M 31 = hM M) : mI M 31 2 = mI M 55 7 := by
  rw [hM_h, ← e]
  rfl
theorem cm_p {M : Mem} (e : hC M 31 = hM M) : mI M 31 4 = mI M 55 1 := by
  rw [hM_p, ← e]
  rfl
theorem Op_n {M : Mem} {s : Nat} {lw : Law} {bd : Nat} (h : Op M s lw bd) : ∃ n, n ≤ 6 ∧ mI M 31 4 = nI n ∧ mI M 55 1 = nI n := by
  obtain ⟨n, hn, en⟩ := h.2.2.2.2.2.1.1.1
  exact ⟨n, hn, by rw [cm_p h.2.2.2.2.1]; exact en, en⟩
/-! ===== of, pull ===== -/
set_option maxHeartbeats 1000000 in
theorem m_of {M : Mem} {n : Nat} (h : Inv M n) (x y : Int32) : Ok1 (fun M => fX11_of M 0 x y) (fun M => fX12_of M 55 x y) M := by
  obtain ⟨s, lw, bd, o⟩ := Op_of h
  obtain ⟨q, hq, e1, e2⟩ := Op_n o
  have hS := o.1
  have eH := o.2.2.2.2.1
  rcases cs_person hq x with ⟨p, hp, hp6, rfl, c1, m1⟩ | ⟨c0, m0⟩
  · have ip := inb_n hp6 (by decide : 6 < 1000000)
    have tp := tn (show p < 1000000 by omega)
    obtain ⟨k, hk, ek⟩ := o.2.2.2.2.2.1.1.2.2.2.1 p hp6
    by_cases y0 : y = 0
    · subst y0
      refine Ok_m h (a := mI M 57 p) ?_ ?_
      · simp only [fX11_of, k_0 hS, r_0_0 hS, k_31 hS, r_31_5 hS, k_33 hS, g_33 hS, c1 M hS e1, ck_t, bd_s, rb_s, ip, tp, show ¬ (1 : Int32) = 0 by decide, if_true, if_false, cm_1 eH hp6]
      · simp only [fX12_of, k_55 hS, r_55_2 hS, k_57 hS, g_57 hS, m1 M hS e2, ck_t, bd_s, rb_s, ip, tp, show ¬ (1 : Int32) = 0 by decide, if_true, if_false]
    by_cases y1 : y = 1
    · subst y1
      refine Ok_m h (a := mI M 58 p) ?_ ?_
      · simp only [fX11_of, k_0 hS, r_0_0 hS, k_31 hS, r_31_6 hS, k_34 hS, g_34 hS, c1 M hS e1, ck_t, bd_s, rb_s, ip, tp, y0, if_true, if_false, cm_2 eH hp6]
      · simp only [fX12_of, k_55 hS, r_55_3 hS, k_58 hS, g_58 hS, m1 M hS e2, ck_t, bd_s, rb_s, ip, tp, y0, if_true, if_false]
    by_cases y2 : y = 2
    · subst y2
      refine Ok_m h (a := mI M 59 p) ?_ ?_
      · simp only [fX11_of, k_0 hS, r_0_0 hS, k_31 hS, r_31_7 hS, k_35 hS, g_35 hS, c1 M hS e1, ck_t, bd_s, rb_s, ip, tp, show ¬ (1 : Int32) = 0 by decide, y0, y1, if_true, if_false, cm_3 eH hp6]
      · simp only [fX12_of, k_55 hS, r_55_4 hS, k_59 hS, g_59 hS, m1 M hS e2, ck_t, bd_s, rb_s, ip, tp, show ¬ (1 : Int32) = 0 by decide, y0, y1, if_true, if_false]
    by_cases y3 : y = 3
    · subst y3
      refine Ok_m h (a := mI M 60 p) ?_ ?_
      · simp only [fX11_of, k_0 hS, r_0_0 hS, k_31 hS, r_31_8 hS, k_36 hS, g_36 hS, c1 M hS e1, ck_t, bd_s, rb_s, ip, tp, show ¬ (1 : Int32) = 0 by decide, y0, y1, y2, if_true, if_false, cm_4 eH hp6]
        rcases o.2.2.2.2.2.1.1.2.2.2.2.2 p hp6 with w | w
        · rw [hM_4 hp6, w, if_pos rfl]
        · rw [hM_4 hp6, w, if_neg (by decide)]
      · simp only [fX12_of, k_55 hS, r_55_5 hS, k_60 hS, g_60 hS, m1 M hS e2, ck_t, bd_s, rb_s, ip, tp, show ¬ (1 : Int32) = 0 by decide, y0, y1, y2, if_true, if_false]
    by_cases y4 : y = 4
    · subst y4
      obtain ⟨G, hG⟩ := p_sends (Hl_31 hS) (Kd_s hS) o.2.1 (Op_Sq o) (Or.inl rfl) (by rw [eH]; exact o.2.2.2.2.2.1.1) hp6
      have qc : Qc M (wF M (31 + 7) G) := Qc_wF (by decide)
      obtain ⟨o2, eh⟩ := Op_qc o qc
      refine Ok_q h (a := aSent lw (nI bd) (hM M) p) (N := wF M (31 + 7) G) ?_ qc ?_
      · simp only [fX11_of, k_0 hS, r_0_0 hS, k_31 hS, c1 M hS e1, ck_t, bd_s, rb_s, show ¬ (1 : Int32) = 0 by decide, y0, y1, y2, y3, if_true, if_false, hG, eH]
      · obtain ⟨G2, hG2⟩ := p_msent o2.1 (Op_Mq o2) o2.2.2.2.2.2.1.1 hp6
        have e2' : mI (wF M (31 + 7) G) 55 1 = nI q := e2
        refine ⟨_, ?_, Qm_69 (F := G2)⟩
        simp only [fX12_of, k_55 o2.1, m1 _ o2.1 e2', ck_t, bd_s, show ¬ (1 : Int32) = 0 by decide, y0, y1, y2, y3, if_true, if_false, hG2, eh]
    by_cases y5 : y = 5
    · subst y5
      have ekc : hC M 31 1 p = nI k := by rw [eH]; exact ek
      refine Ok_m h (a := aTread (nI k)) ?_ ?_
      · simp only [fX11_of, k_0 hS, r_0_0 hS, k_31 hS, c1 M hS e1, ck_t, bd_s, rb_s, show ¬ (1 : Int32) = 0 by decide, y0, y1, y2, y3, y4, if_true, if_false, p_kindOf (Hl_31 hS) (Kd_s hS) hp6 ekc hk, p_kt (Kd_s hS) hk]
      · simp only [fX12_of, k_55 hS, m1 M hS e2, ck_t, bd_s, show ¬ (1 : Int32) = 0 by decide, y0, y1, y2, y3, y4, if_true, if_false, p_mtread hS hp6 hk ek]
    · refine Ok_m h (a := -1) ?_ ?_
      · simp only [fX11_of, k_0 hS, c1 M hS e1, ck_t, bd_s, show ¬ (1 : Int32) = 0 by decide, y0, y1, y2, y3, y4, y5, if_false]
      · simp only [fX12_of, k_55 hS, m1 M hS e2, ck_t, bd_s, show ¬ (1 : Int32) = 0 by decide, y0, y1, y2, y3, y4, y5, if_false]
  · refine Ok_m h (a := -1) ?_ ?_
    · simp only [fX11_of, k_0 hS, c0 M hS e1, ck_t, bd_s, if_true]
    · simp only [fX12_of, k_55 hS, m0 M hS e2, ck_t, bd_s, if_true]
theorem m_pull {M : Mem} {n : Nat} (h : Inv M n) (x y : Int32) : Ok1 (fun M => fX11_pull M 0 x y) (fun M => fX12_pull M 55 x y) M := by
  obtain ⟨s, lw, bd, o⟩ := Op_of h
  obtain ⟨q, hq, e1, e2⟩ := Op_n o
  have hS := o.1
  have eH := o.2.2.2.2.1
  rcases cs_person hq x with ⟨p, hp, hp6, rfl, c1, m1⟩ | ⟨c0, m0⟩
  · rcases cs_cell y with ⟨c, hc, rfl, d1, d2⟩ | ⟨d1, d2⟩
    · have hG := p_pullOn (Hl_31 hS) (Kd_s hS) o.2.1 (Op_Sq o) (Or.inl rfl) (by rw [eH]; exact o.2.2.2.2.2.1.1) hp6 hc
      have qc : Qc M (wF M (31 + 7) (fF M 31 p c)) := Qc_wF (by decide)
      obtain ⟨o2, eh⟩ := Op_qc o qc
      refine Ok_q h (a := aPull lw (hM M) p c) (N := wF M (31 + 7) (fF M 31 p c)) ?_ qc ?_
      · simp only [fX11_pull, k_0 hS, r_0_0 hS, k_31 hS, c1 M hS e1, d1, ck_t, bd_s, rb_s, show ¬ (1 : Int32) = 0 by decide, if_false, hG, eH]
      · obtain ⟨G2, hG2⟩ := p_mpull o2.1 (Op_Mq o2) o2.2.2.2.2.2.1.1 hp6 hc
        have e2' : mI (wF M (31 + 7) (fF M 31 p c)) 55 1 = nI q := e2
        refine ⟨_, ?_, Qm_69 (F := G2)⟩
        simp only [fX12_pull, k_55 o2.1, m1 _ o2.1 e2', d2, ck_t, bd_s, show ¬ (1 : Int32) = 0 by decide, if_false, hG2, eh]
    · refine Ok_m h (a := -10001) ?_ ?_
      · simp only [fX11_pull, k_0 hS, c1 M hS e1, d1, ck_t, bd_s, show ¬ (1 : Int32) = 0 by decide, if_true, if_false]
      · simp only [fX12_pull, k_55 hS, m1 M hS e2, d2, ck_t, bd_s, show ¬ (1 : Int32) = 0 by decide, if_true, if_false]
  · refine Ok_m h (a := -10001) ?_ ?_
    · simp only [fX11_pull, k_0 hS, c0 M hS e1, ck_t, bd_s, if_true]
    · simp only [fX12_pull, k_55 hS, m0 M hS e2, ck_t, bd_s, if_true]
