/-! ===== the model reads ===== -/
def ME (M0 : Mem) (t : Nat) (tx : Nat → Nat) (cd : Nat) : Prop := Sh M0 ∧ t ≤ 100 ∧ (∀ i, i < t → tx i < 128) ∧ mI M0 55 8 = nI t ∧ (∀ i, i < t → mI M0 62 i = nI (tx i)) ∧ cd ≤ 600
def MP (M0 : Mem) (t : Nat) (tx : Nat → Nat) (cd : Nat) (M : Mem) (a : Nat) (cs : List Nat) (ov : Int32) : Prop := M.1 = M0.1 ∧ M.2.2 = M0.2.2 ∧ (∀ b, b ≠ 55 → b ≠ 68 → M.2.1 b = M0.2.1 b) ∧ (∀ f, f ≠ 10 → f ≠ 11 → f ≠ 12 → f ≠ 13 → f ≠ 22 → mI M 55 f = mI M0 55 f) ∧ a ≤ t ∧ mI M 55 10 = nI a ∧ mI M 55 13 = ov ∧ mI M 55 22 = nI (cd + cs.length) ∧ (∀ i, i < cd → mI M 68 i = mI M0 68 i) ∧ ∀ i, i < cs.length → ∃ c, cs[i]? = some c ∧ mI M 68 (cd + i) = nI c
section MREAD
variable {M0 : Mem} {t cd : Nat} {tx : Nat → Nat}
theorem MP_8 (e : ME M0 t tx cd) {M : Mem} {a : Nat} {cs : List Nat} {ov : Int32} (h : MP M0 t tx cd M a cs ov) : Sh M ∧ mI M 55 8 = nI t ∧ ∀ i, i < t → mI M 62 i = nI (tx i) := ⟨Sh_1 h.1 e.1, (h.2.2.2.1 8 (by decide) (by decide) (by decide) (by decide) (by decide)).trans e.2.2.2.1, fun i hi => (congrFun (h.2.2.1 62 (by decide) (by decide)) i).trans (e.2.2.2.2.1 i hi)⟩
/-- a field of the reading put otherwise -/
theorem MP_f {M : Mem} {a b : Nat} {cs : List Nat} {ov ow : Int32} (h : MP M0 t tx cd M a cs ov) {f : Nat} {x : Int32} (hf : (f = 10 ∧ x = nI b ∧ b ≤ t ∧ ow = ov) ∨ ((f = 11 ∨ f = 12) ∧ b = a ∧ ow = ov) ∨ (f = 13 ∧ b = a ∧ ow = x)) : MP M0 t tx cd (stI M 55 f x) b cs ow := by
  obtain ⟨h1, h2, h3, h4, h5, h6, h7, h8, h9, h10⟩ := h
  refine ⟨h1, h2, fun c c1 c2 => ?_, fun g g1 g2 g3 g4 g5 => ?_, ?_, ?_, ?_, ?_, fun i hi => ?_, fun i hi => ?_⟩
  · rw [row_st c1]
    exact h3 c c1 c2
  · rw [mI_stI, if_neg (by omega)]
    exact h4 g g1 g2 g3 g4 g5
  · rcases hf with ⟨-, -, hb, -⟩ | ⟨-, rfl, -⟩ | ⟨-, rfl, -⟩
    · exact hb
    · exact h5
    · exact h5
  · rcases hf with ⟨rfl, rfl, -, -⟩ | ⟨hf, rfl, -⟩ | ⟨rfl, rfl, -⟩
    · rw [mI_stI, if_pos ⟨rfl, rfl⟩]
    · rw [mI_stI, if_neg (by omega)]
      exact h6
    · rw [mI_stI, if_neg (by omega)]
      exact h6
  · rcases hf with ⟨rfl, -, -, rfl⟩ | ⟨hf, -, rfl⟩ | ⟨rfl, -, rfl⟩
    · rw [mI_stI, if_neg (by omega)]
      exact h7
    · rw [mI_stI, if_neg (by omega)]
      exact h7
    · rw [mI_stI, if_pos ⟨rfl, rfl⟩]
  · rw [mI_stI, if_neg (by omega)]
    exact h8
  · rw [mI_stI, if_neg (by omega)]
    exact h9 i hi
  · obtain ⟨c, c1, c2⟩ := h10 i hi
    refine ⟨c, c1, ?_⟩
    rw [mI_stI, if_neg (by omega)]
    exact c2
theorem m_is (e : ME M0 t tx cd) {M : Mem} {a : Nat} {cs : List Nat} {ov x : Int32} (h : MP M0 t tx cd M a cs ov) (hx : ¬ x = -1) : ∃ N, fX12_is M 55 x = some (if nx t tx a = x then 1 else 0, N) ∧ MP M0 t tx cd N (if nx t tx a = x then a + 1 else a) cs ov := by
  obtain ⟨hS, h8, hr⟩ := MP_8 e h
  have h10 := h.2.2.2.2.2.1
  have ht := e.2.1
  have ha := h.2.2.2.2.1
  unfold fX12_is
  rw [k_55 hS, ck_t, h10, h8]
  by_cases g : a < t
  · have en : nx t tx a = nI (tx a) := if_pos g
    rw [if_neg (by rw [eqL (by omega) (by omega)]; omega), r_55_9 hS, rb_s, k_62 hS, ck_t, g_62 hS, inb_n (show a < 100 by omega) (by decide), ck_t, tn (show a < 1000000 by omega), hr a g, en]
    by_cases g2 : nI (tx a) = x
    · rw [if_pos g2, if_pos g2, if_pos g2, nI_1]
      exact ⟨_, rfl, MP_f h (Or.inl ⟨rfl, rfl, by omega, rfl⟩)⟩
    · rw [if_neg g2, if_neg g2, if_neg g2]
      exact ⟨M, rfl, h⟩
  · have en : nx t tx a = -1 := if_neg g
    have g2 : ¬ nx t tx a = x := fun q => hx (q.symm.trans en)
    rw [if_pos (by rw [eqL (by omega) (by omega)]; omega), if_neg g2, if_neg g2]
    exact ⟨M, rfl, h⟩
theorem m_wordL (e : ME M0 t tx cd) {j : Nat} (hj : j < 10) : ∀ (k m i : Nat) (M : Mem) (a : Nat) (cs : List Nat) (ov : Int32), MP M0 t tx cd M a cs ov → i + k = xLen.getD j 0 → ∃ N, gX12_isAll_2 (m + k + 1) M 55 j (nI i) = some (b2 (pWord t tx ((xByt.getD j []).drop i) a).1, N) ∧ MP M0 t tx cd N (pWord t tx ((xByt.getD j []).drop i) a).2 cs ov := by
  obtain ⟨x1, x2, x3⟩ := xl_6 j hj
  intro k
  induction k with
  | zero =>
    intro m i M a cs ov h hi
    have : (xByt.getD j []).drop i = [] := List.drop_eq_nil_of_le (by omega)
    rw [this]
    refine ⟨M, ?_, h⟩
    rw [gX12_isAll_2_s, isS_n hj, ck_t, p_len hj, bd_s, if_pos (by rw [leL (by omega) (by omega)]; omega)]
    rfl
  | succ k ih =>
    intro m i M a cs ov h hi
    have hS := (MP_8 e h).1
    rw [drop_s (by omega)]
    rw [show m + (k + 1) + 1 = (m + k + 1) + 1 by omega, gX12_isAll_2_s, isS_n hj, ck_t, p_len hj, bd_s, if_neg (by rw [leL (by omega) (by omega)]; omega), ck_t, p_chr hj (by omega), bd_s, k_55 hS, ck_t]
    obtain ⟨N, n1, n2⟩ := m_is e h (x := (xByt.getD j []).getD i 0) (x3 _ (getD_mem (by omega)))
    rw [n1, bd_s]
    unfold pWord
    by_cases g : nx t tx a = (xByt.getD j []).getD i 0
    · rw [if_pos g] at n2
      rw [if_pos g, if_pos g, if_neg n10, nI_1]
      exact ih m (i + 1) N (a + 1) cs ov n2 (by omega)
    · rw [if_neg g] at n2
      rw [if_neg g, if_neg g, if_pos rfl]
      exact ⟨N, rfl, n2⟩
theorem m_word (e : ME M0 t tx cd) {j : Nat} (hj : j < 10) {M : Mem} {a : Nat} {cs : List Nat} {ov : Int32} (h : MP M0 t tx cd M a cs ov) : ∃ N, fX12_isAll M 55 j = some (b2 (pWord t tx (xByt.getD j []) a).1, N) ∧ MP M0 t tx cd N (pWord t tx (xByt.getD j []) a).2 cs ov := by
  obtain ⟨x1, x2, x3⟩ := xl_6 j hj
  obtain ⟨m, hm⟩ := FUs (xLen.getD j 0) (by omega)
  have := m_wordL e hj (xLen.getD j 0) m 0 M a cs ov h (by omega)
  rw [← hm] at this
  exact this
theorem m_digit (e : ME M0 t tx cd) {M : Mem} {a : Nat} {cs : List Nat} {ov : Int32} (h : MP M0 t tx cd M a cs ov) : fX12_isDigit M 55 = some (b2 (dg (nx t tx a)), M) := by
  obtain ⟨hS, h8, hr⟩ := MP_8 e h
  have h10 := h.2.2.2.2.2.1
  have ht := e.2.1
  have ha := h.2.2.2.2.1
  unfold fX12_isDigit
  rw [k_55 hS, ck_t, h10, h8]
  by_cases g : a < t
  · have en : nx t tx a = nI (tx a) := if_pos g
    rw [if_neg (by rw [leL (by omega) (by omega)]; omega), r_55_9 hS, rb_s, k_62 hS, ck_t, g_62 hS, inb_n (show a < 100 by omega) (by decide), ck_t, ck_t, tn (show a < 1000000 by omega), hr a g, ← en]
    by_cases k1 : nx t tx a < 48
    · rw [if_pos k1, b2_f (fun q => (dg_iff.mp q).1 k1)]
    · rw [if_neg k1]
      by_cases k2 : 57 < nx t tx a
      · rw [if_pos k2, b2_f (fun q => (dg_iff.mp q).2 k2)]
      · rw [if_neg k2, b2_t (dg_iff.mpr ⟨k1, k2⟩)]
  · rw [if_pos (by rw [leL (by omega) (by omega)]; omega), b2_f (fun q => g (dg_lt q))]
/-- one digit more -/
theorem m_dstep (e : ME M0 t tx cd) {M : Mem} {a v d f : Nat} {cs : List Nat} {ov : Int32} (h : MP M0 t tx cd M a cs ov) (hv : mI M 55 11 = nI v) (hd : mI M 55 12 = nI d) (hd2 : d < 2) (hv2 : v ≤ 9) : (¬ dg (nx t tx a) = true ∧ gX12_isNumber_10 (f + 1) M 55 = gX12_isNumber_72 M 55) ∨ (dg (nx t tx a) = true ∧ ∃ N, gX12_isNumber_10 (f + 1) M 55 = gX12_isNumber_10 f N 55 ∧ MP M0 t tx cd N (a + 1) cs ov ∧ mI N 55 11 = nI (10 * v + (tx a - 48)) ∧ mI N 55 12 = nI (d + 1)) := by
  obtain ⟨hS, h8, hr⟩ := MP_8 e h
  have h10 := h.2.2.2.2.2.1
  have ht := e.2.1
  have hlt : ¬ (2 : Int32) ≤ nI d := by
    rw [show (2 : Int32) = nI 2 from rfl, leL (by omega) (by omega)]
    omega
  by_cases g : dg (nx t tx a) = true
  · obtain ⟨g1, g2, g3, g4⟩ := dg_n e.2.2.1 g
    refine Or.inr ⟨g, stI (stI (stI M 55 11 (nI (10 * v + (tx a - 48)))) 55 10 (nI (a + 1))) 55 12 (nI (d + 1)), ?_, ?_, ?_, ?_⟩
    · have ev : (10 * nI v + nI (tx a) - 48 : Int32) = nI (10 * v + (tx a - 48)) := by
        rw [show (10 : Int32) = nI 10 from rfl, show (48 : Int32) = nI 48 from rfl, pk_mul, nI_add, pk_sub (by omega)]
        congr 1
        omega
      have u1 : mI (stI M 55 11 (nI (10 * v + (tx a - 48)))) 55 10 = nI a := by rw [mI_stI, if_neg (by omega)]; exact h10
      have u2 : mI (stI (stI M 55 11 (nI (10 * v + (tx a - 48)))) 55 10 (nI (a + 1))) 55 12 = nI d := by rw [mI_stI, if_neg (by omega), mI_stI, if_neg (by omega)]; exact hd
      rw [gX12_isNumber_10_s, k_55 hS, ck_t, hd, if_neg hlt, m_digit e h, bd_s, b2_t g, if_neg n10, k_55 hS, ck_t, r_55_9 hS, rb_s, k_62 hS, ck_t, g_62 hS, h10, inb_n (show a < 100 by omega) (by decide), ck_t, nm_s, tn (show a < 1000000 by omega), hv, hr a g1, ev, u1, nI_1, isK_stI, isK_stI, k_55 hS, ck_t, u2, nI_1]
    · exact MP_f (MP_f (MP_f h (Or.inr (Or.inl ⟨Or.inl rfl, rfl, rfl⟩))) (Or.inl ⟨rfl, rfl, by omega, rfl⟩)) (Or.inr (Or.inl ⟨Or.inr rfl, rfl, rfl⟩))
    · rw [mI_stI, if_neg (by omega), mI_stI, if_neg (by omega), mI_stI, if_pos ⟨rfl, rfl⟩]
    · rw [mI_stI, if_pos ⟨rfl, rfl⟩]
  · refine Or.inl ⟨g, ?_⟩
    rw [gX12_isNumber_10_s, k_55 hS, ck_t, hd, if_neg hlt, m_digit e h, bd_s, b2_f g, if_pos rfl]
theorem m_n72 (e : ME M0 t tx cd) {M : Mem} {a d : Nat} {cs : List Nat} {ov : Int32} (h : MP M0 t tx cd M a cs ov) (hd : mI M 55 12 = nI d) (hd2 : d < 3) : gX12_isNumber_72 M 55 = some (if d = 0 then 0 else 1, M) := by
  have hS := (MP_8 e h).1
  unfold gX12_isNumber_72
  rw [k_55 hS, ck_t, hd]
  by_cases g : d = 0
  · subst g
    rw [if_pos (by decide), if_pos rfl]
  · rw [if_neg (by rw [show (0 : Int32) = nI 0 from rfl, leL (by omega) (by omega)]; omega), if_neg g]
theorem m_num (e : ME M0 t tx cd) {M : Mem} {a : Nat} {cs : List Nat} {ov : Int32} (h : MP M0 t tx cd M a cs ov) : ∃ N, fX12_isNumber M 55 = some (b2 (pNum t tx a).1, N) ∧ MP M0 t tx cd N (pNum t tx a).2.1 cs ov ∧ ((pNum t tx a).1 = true → mI N 55 11 = nI (pNum t tx a).2.2) := by
  have hS := (MP_8 e h).1
  have hA : MP M0 t tx cd (stI (stI M 55 11 0) 55 12 0) a cs ov := MP_f (MP_f h (Or.inr (Or.inl ⟨Or.inl rfl, rfl, rfl⟩))) (Or.inr (Or.inl ⟨Or.inr rfl, rfl, rfl⟩))
  obtain ⟨A, eA⟩ : ∃ A, A = stI (stI M 55 11 0) 55 12 0 := ⟨_, rfl⟩
  rw [← eA] at hA
  have vA : mI A 55 11 = nI 0 := by rw [eA, mI_stI, if_neg (by omega), mI_stI, if_pos ⟨rfl, rfl⟩]; rfl
  have dA : mI A 55 12 = nI 0 := by rw [eA, mI_stI, if_pos ⟨rfl, rfl⟩]; rfl
  obtain ⟨m, hm⟩ := FUs 2 (by decide)
  have e0 : fX12_isNumber M 55 = gX12_isNumber_10 (m + 2 + 1) A 55 := by
    unfold fX12_isNumber
    rw [k_55 hS, ck_t, ← eA, hm]
  rw [e0]
  unfold pNum
  rcases m_dstep e (f := m + 2) hA vA dA (by omega) (by omega) with ⟨g, s1⟩ | ⟨g, B, s1, hB, vB, dB⟩
  · rw [if_neg g, s1, m_n72 e hA dA (by omega), if_pos rfl]
    exact ⟨A, rfl, hA, fun q => by cases q⟩
  · obtain ⟨g1, g2, g3, g4⟩ := dg_n e.2.2.1 g
    rw [if_pos g, s1]
    rcases m_dstep e (f := m + 1) hB vB dB (by omega) (by omega) with ⟨k, s2⟩ | ⟨k, C, s2, hC, vC, dC⟩
    · rw [if_neg k, s2, m_n72 e hB dB (by omega), if_neg (by omega)]
      refine ⟨B, rfl, hB, fun _ => ?_⟩
      show mI B 55 11 = nI (tx a - 48)
      rw [vB]
      congr 1
      omega
    · have hSC := (MP_8 e hC).1
      rw [if_pos k, s2, gX12_isNumber_10_s, k_55 hSC, ck_t, dC, if_pos (by decide), m_n72 e hC dC (by omega), if_neg (by omega)]
      refine ⟨C, rfl, hC, fun _ => ?_⟩
      show mI C 55 11 = nI (10 * (tx a - 48) + (tx (a + 1) - 48))
      rw [vC]
      congr 1
      omega
theorem m_codes (e : ME M0 t tx cd) {M : Mem} {a c : Nat} {cs : List Nat} {ov : Int32} (h : MP M0 t tx cd M a cs ov) (hl : cs.length ≤ 100) : ∃ N, fX12_codes M 55 (nI c) = some (1, N) ∧ MP M0 t tx cd N a (cs ++ [c]) ov := by
  have hS := (MP_8 e h).1
  have hc := e.2.2.2.2.2
  obtain ⟨h1, h2, h3, h4, h5, h6, h7, h8, h9, h10⟩ := h
  refine ⟨stI (stI M 55 22 (nI (cd + cs.length + 1))) 68 (cd + cs.length) (nI c), ?_, h1, h2, fun b b1 b2 => ?_, fun f f1 f2 f3 f4 f5 => ?_, h5, ?_, ?_, ?_, fun i hi => ?_, fun i hi => ?_⟩
  · unfold fX12_codes
    rw [k_55 hS, ck_t, r_55_21 hS, rb_s, k_68 hS, ck_t, g_68 hS, h8, inb_n (show cd + cs.length < 800 by omega) (by decide), ck_t, tn (show cd + cs.length < 1000000 by omega), nI_1]
  · rw [row_st b2, row_st b1]
    exact h3 b b1 b2
  · rw [mI_stI, if_neg (by omega), mI_stI, if_neg (by omega)]
    exact h4 f f1 f2 f3 f4 f5
  · rw [mI_stI, if_neg (by omega), mI_stI, if_neg (by omega)]
    exact h6
  · rw [mI_stI, if_neg (by omega), mI_stI, if_neg (by omega)]
    exact h7
  · rw [mI_stI, if_neg (by omega), mI_stI, if_pos ⟨rfl, rfl⟩, List.length_append]
    rfl
  · rw [mI_stI, if_neg (by omega), mI_stI, if_neg (by omega)]
    exact h9 i hi
  · rw [List.length_append] at hi
    have hi' : i < cs.length + 1 := hi
    rw [mI_stI]
    by_cases g : i = cs.length
    · subst g
      exact ⟨c, List.getElem?_concat_length, if_pos ⟨rfl, rfl⟩⟩
    · obtain ⟨d, d1, d2⟩ := h10 i (by omega)
      refine ⟨d, by rw [List.getElem?_append_left (by omega)]; exact d1, ?_⟩
      rw [if_neg (by omega), mI_stI, if_neg (by omega)]
      exact d2
theorem m_test (e : ME M0 t tx cd) {M : Mem} {a : Nat} {cs : List Nat} {ov : Int32} (h : MP M0 t tx cd M a cs ov) (hl : cs.length ≤ 100) : ∃ N, fX12_isTest M 55 = some (b2 (pTest t tx a).1, N) ∧ MP M0 t tx cd N (pTest t tx a).2.1 (cs ++ (pTest t tx a).2.2) ov := by
  have ht := e.2.2.1
  have ht1 := e.2.1
  obtain ⟨hS, h8, hr⟩ := MP_8 e h
  have h10 := h.2.2.2.2.2.1
  have ha := h.2.2.2.2.1
  have s1 : fX12_isTest M 55 = gX12_isTest_41 M 55 (lxI (nx t tx a)) := by
    unfold fX12_isTest
    rw [k_55 hS, ck_t, h8, h10]
    by_cases g : a < t
    · have en : nx t tx a = nI (tx a) := if_pos g
      have hb := ht a g
      rw [if_neg (by rw [leL (by omega) (by omega)]; omega), r_55_9 hS, rb_s, k_62 hS, ck_t, g_62 hS, inb_n (show a < 100 by omega) (by decide), ck_t, ck_t, tn (show a < 1000000 by omega), hr a g, en]
      by_cases g0 : nI (tx a) ≤ 0
      · have : nI (tx a) = 0 := by
          rw [show (0 : Int32) = nI 0 from rfl, leL (by omega) (by omega)] at g0
          rw [show tx a = 0 by omega]
          rfl
        rw [if_pos g0, this, lxI_0.1]
        rfl
      · rw [if_neg g0, isS_n (by decide), ck_t, p_ix (by decide) (by decide) hb, bd_s, ix_5 _ hb]
    · have en : nx t tx a = -1 := if_neg g
      rw [if_pos (by rw [leL (by omega) (by omega)]; omega), en, lxI_m.1]
      rfl
  rw [s1]
  unfold gX12_isTest_41 pTest
  rcases lxI_c (nx t tx a) with ⟨l1, l2, l3⟩ | ⟨l1, l2, l3, l4⟩
  · rw [if_neg l3, if_pos l1]
    exact ⟨M, rfl, by show MP M0 t tx cd M a (cs ++ []) ov; rw [List.append_nil]; exact h⟩
  · have hla := lix_lt l1
    obtain ⟨A, eA⟩ : ∃ A, A = stI M 55 10 (nI (a + 1)) := ⟨_, rfl⟩
    have hA : MP M0 t tx cd A (a + 1) cs ov := by rw [eA]; exact MP_f h (Or.inl ⟨rfl, rfl, by omega, rfl⟩)
    obtain ⟨hSA, h8A, hrA⟩ := MP_8 e hA
    have h10A := hA.2.2.2.2.2.1
    rw [if_pos l4, if_neg l1, k_55 hS, ck_t, h10, nI_1, ← eA, h8A, h10A]
    have s2 : (if nI t ≤ nI (a + 1) then (gX12_isTest_98 A 55 (lxI (nx t tx a))) else (rb (mR A 55 9) fun b7 => ck (isK A b7 14) <| ck (inb (nI (a + 1)) (mG A b7)) <| if (mI A b7 (nI (a + 1)).toNatClampNeg) ≤ 0 then (gX12_isTest_98 A 55 (lxI (nx t tx a))) else (ck (inb (nI (a + 1)) (mG A b7)) <| ck (isS 6) <| bd (fJ0_indexOf_0f7a4 A 6 (mI A b7 (nI (a + 1)).toNatClampNeg)) fun x12 M12 => gX12_isTest_99 M12 55 (lxI (nx t tx a)) x12))) = gX12_isTest_99 A 55 (lxI (nx t tx a)) (sxI (nx t tx (a + 1))) := by
      by_cases g : a + 1 < t
      · have en : nx t tx (a + 1) = nI (tx (a + 1)) := if_pos g
        have hb := ht (a + 1) g
        rw [if_neg (by rw [leL (by omega) (by omega)]; omega), r_55_9 hSA, rb_s, k_62 hSA, ck_t, g_62 hSA, inb_n (show a + 1 < 100 by omega) (by decide), ck_t, ck_t, tn (show a + 1 < 1000000 by omega), hrA (a + 1) g, en]
        by_cases g0 : nI (tx (a + 1)) ≤ 0
        · have : nI (tx (a + 1)) = 0 := by
            rw [show (0 : Int32) = nI 0 from rfl, leL (by omega) (by omega)] at g0
            rw [show tx (a + 1) = 0 by omega]
            rfl
          rw [if_pos g0, this, lxI_0.2]
          rfl
        · rw [if_neg g0, isS_n (by decide), ck_t, p_ix (by decide) (by decide) hb, bd_s, ix_6 _ hb]
      · have en : nx t tx (a + 1) = -1 := if_neg g
        rw [if_pos (by rw [leL (by omega) (by omega)]; omega), en, lxI_m.2]
        rfl
    rw [s2]
    unfold gX12_isTest_99
    rcases sxI_c (nx t tx (a + 1)) with ⟨g1, g2, g3⟩ | ⟨g1, g2, g3, g4⟩
    · rw [if_neg g3, if_pos g1]
      exact ⟨A, rfl, by show MP M0 t tx cd A (a + 1) (cs ++ []) ov; rw [List.append_nil]; exact hA⟩
    · have hga := six_lt g1
      obtain ⟨B, eB⟩ : ∃ B, B = stI A 55 10 (nI (a + 1 + 1)) := ⟨_, rfl⟩
      have hB : MP M0 t tx cd B (a + 1 + 1) cs ov := by rw [eB]; exact MP_f hA (Or.inl ⟨rfl, rfl, by omega, rfl⟩)
      obtain ⟨Q, q1, q2, q3⟩ := m_num e hB
      have hSQ := (MP_8 e q2).1
      obtain ⟨k1, k2, k3, k4⟩ := pNum_in (tx := tx) ht (show a + 1 + 1 ≤ t by omega)
      have two : a + 2 = a + 1 + 1 := by omega
      rw [if_pos g4, if_neg g1, k_55 hSA, ck_t, h10A, nI_1, ← eB, q1, bd_s, two]
      by_cases m : (pNum t tx (a + 1 + 1)).1 = true
      · rw [b2_t m, if_neg n10, if_pos m, k_55 hSQ, ck_t, q3 m, l3, g3]
        have ec : ((3 : Int32) + 300 * nI (lix (nx t tx a)) + 100 * nI (six (nx t tx (a + 1))) + nI (pNum t tx (a + 1 + 1)).2.2) = nI (3 + 300 * lix (nx t tx a) + 100 * six (nx t tx (a + 1)) + (pNum t tx (a + 1 + 1)).2.2) := by
          rw [show (3 : Int32) = nI 3 from rfl, show (300 : Int32) = nI 300 from rfl, show (100 : Int32) = nI 100 from rfl, pk_mul, pk_mul, nI_add, nI_add, nI_add]
        rw [ec]
        obtain ⟨R, r1, r2⟩ := m_codes e q2 hl (c := 3 + 300 * lix (nx t tx a) + 100 * six (nx t tx (a + 1)) + (pNum t tx (a + 1 + 1)).2.2)
        rw [r1, bd_s, if_neg n10]
        exact ⟨R, rfl, r2⟩
      · rw [b2_f m, if_pos rfl, if_neg m]
        exact ⟨Q, rfl, by show MP M0 t tx cd Q (pNum t tx (a + 1 + 1)).2.1 (cs ++ []) ov; rw [List.append_nil]; exact q2⟩
theorem m_opened (e : ME M0 t tx cd) {M : Mem} {a k : Nat} {cs : List Nat} {x : Int32} (hk : k ≤ 4) (h : MP M0 t tx cd M a cs (nI (4 - k))) (hx : ¬ x = -1) : (k = 0 → fX12_isOpened M 55 x = some (0, M)) ∧ (¬ nx t tx a = x → ∃ N, fX12_isOpened M 55 x = some (0, N) ∧ MP M0 t tx cd N a cs (nI (4 - k))) ∧ (∀ j, k = j + 1 → nx t tx a = x → ∃ N, fX12_isOpened M 55 x = some (1, N) ∧ MP M0 t tx cd N (a + 1) cs (nI (4 - j))) := by
  have hS := (MP_8 e h).1
  have h13 := h.2.2.2.2.2.2.1
  have k0 : k = 0 → fX12_isOpened M 55 x = some (0, M) := by
    intro q
    subst q
    unfold fX12_isOpened
    rw [k_55 hS, ck_t, h13, if_pos (by decide)]
  refine ⟨k0, fun g => ?_, fun j hj g => ?_⟩
  · by_cases q : k = 0
    · exact ⟨M, k0 q, h⟩
    · obtain ⟨N, n1, n2⟩ := m_is e h hx
      rw [if_neg g] at n1 n2
      refine ⟨N, ?_, n2⟩
      unfold fX12_isOpened
      rw [k_55 hS, ck_t, h13, if_neg (by rw [show (4 : Int32) = nI 4 from rfl, eqL (by omega) (by omega)]; omega), n1, bd_s, if_pos rfl]
  · obtain ⟨N, n1, n2⟩ := m_is e h hx
    rw [if_pos g] at n1 n2
    have hSN := (MP_8 e n2).1
    refine ⟨stI N 55 13 (nI (4 - j)), ?_, MP_f n2 (Or.inr (Or.inr ⟨rfl, rfl, rfl⟩))⟩
    unfold fX12_isOpened
    rw [k_55 hS, ck_t, h13, if_neg (by rw [show (4 : Int32) = nI 4 from rfl, eqL (by omega) (by omega)]; omega), n1, bd_s, if_neg n10, k_55 hSN, ck_t, n2.2.2.2.2.2.2.1, nI_1, show 4 - k + 1 = 4 - j by omega]
/-- the model's reader reads as F does -/
def TF (M0 : Mem) (t : Nat) (tx : Nat → Nat) (cd : Nat) (f : Mem → Nat → Option (Int32 × Mem)) (ov : Int32) (F : Nat → Res) : Prop := ∀ (M : Mem) (a : Nat) (cs : List Nat), MP M0 t tx cd M a cs ov → cs.length ≤ a → 1 ≤ a → ∃ N, f M 55 = some (b2 (F a).1, N) ∧ MP M0 t tx cd N (F a).2.1 (cs ++ (F a).2.2) ov
def pR (t : Nat) (tx : Nat → Nat) (F : Nat → Res) (n : Nat) (ow : Bool) (a : Nat) (cs : List Nat) : Res := if nx t tx a = 38 then pL t tx F n true ow (a + 1) cs else if nx t tx a = 124 then pL t tx F n false true (a + 1) (cs ++ (if ow = true then [2] else [])) else (true, a, cs ++ (if ow = true then [2] else []))
theorem pL_R {F : Nat → Res} {n : Nat} {aw ow : Bool} {a : Nat} {cs : List Nat} : pL t tx F (n + 1) aw ow a cs = if (F a).1 = true then pR t tx F n ow (F a).2.1 (cs ++ (F a).2.2 ++ (if aw = true then [1] else [])) else (false, (F a).2.1, cs ++ (F a).2.2) := rfl
noncomputable def cE (F0 F1 F2 : Mem → Nat → Option (Int32 × Mem)) (ow : Bool) (f : Nat) (N : Mem) : Option (Int32 × Mem) := if ow = true then (ck (isK N 55 12) <| bd (fX12_codes N 55 (2 : Int32)) fun x8 M8 => if x8 = 0 then (some ((0 : Int32), M8)) else gX12_isE_9 F0 F1 F2 f M8 55) else gX12_isE_9 F0 F1 F2 f N 55
/-- behind a factor: the model's loops do what is left -/
theorem m_R (e : ME M0 t tx cd) {F0 F1 F2 G0 G1 G2 : Mem → Nat → Option (Int32 × Mem)} {ov : Int32} {F : Nat → Res} (hF : TF M0 t tx cd G0 ov F) (hR : Rd t F) (hT : ∀ M, F1 M 55 = ck (isK M 55 12) (bd (G0 M 55) fun x2 M2 => if x2 = 0 then (some ((0 : Int32), M2)) else (gX12_isT_9 G0 G1 G2 FU M2 55))) : ∀ (n : Nat) (ow : Bool) (a fT : Nat) (c0 cs : List Nat) (M : Mem), t < a + n → n ≤ 100 → MP M0 t tx cd M a (c0 ++ cs) ov → (c0 ++ cs).length + bn ow ≤ a → 1 ≤ a → n < fT →
    ∃ v N, gX12_isT_9 G0 G1 G2 fT M 55 = some (v, N) ∧ ((v = 0 ∧ (pR t tx F n ow a cs).1 = false ∧ MP M0 t tx cd N (pR t tx F n ow a cs).2.1 (c0 ++ (pR t tx F n ow a cs).2.2) ov) ∨ (v = 1 ∧ ∀ fE, n < fE → ∃ P, cE F0 F1 F2 ow fE N = some (b2 (pR t tx F n ow a cs).1, P) ∧ MP M0 t tx cd P (pR t tx F n ow a cs).2.1 (c0 ++ (pR t tx F n ow a cs).2.2) ov)) := by
  have ht1 := e.2.1
  intro n
  induction n with
  | zero =>
    intro ow a fT c0 cs M hn _ h _ _ _
    have := h.2.2.2.2.1
    omega
  | succ n ih =>
    intro ow a fT c0 cs M hn hn1 h hl h1 hf
    have hat := h.2.2.2.2.1
    obtain ⟨hS, -, -⟩ := MP_8 e h
    obtain ⟨f, rfl⟩ : ∃ f, fT = f + 1 := ⟨fT - 1, by omega⟩
    obtain ⟨A, a1, a2⟩ := m_is e h (x := 38) (by decide)
    obtain ⟨hSA, -, -⟩ := MP_8 e a2
    rw [gX12_isT_9_s, k_55 hS, ck_t, a1, bd_s]
    by_cases g : nx t tx a = 38
    · rw [if_pos g] at a2
      have hla := nx_lt' g (by decide)
      obtain ⟨r1, r2, r3, r4, r5⟩ := hR (a + 1) (by omega)
      obtain ⟨B, b1, b2'⟩ := hF A (a + 1) _ a2 (by omega) (by omega)
      obtain ⟨hSB, -, -⟩ := MP_8 e b2'
      have eR : pR t tx F (n + 1) ow a cs = if (F (a + 1)).1 = true then pR t tx F n ow (F (a + 1)).2.1 (cs ++ (F (a + 1)).2.2 ++ [1]) else (false, (F (a + 1)).2.1, cs ++ (F (a + 1)).2.2) := by
        unfold pR
        rw [if_pos g, pL_R]
        rfl
      rw [eR, if_pos g, if_neg n10, k_55 hSA, ck_t, b1, bd_s]
      by_cases g1 : (F (a + 1)).1 = true
      · have := r5 g1
        obtain ⟨C, c1, c2⟩ := m_codes e b2' (c := 1) (by rw [List.length_append]; omega)
        have c1' : fX12_codes B 55 1 = some (1, C) := c1
        rw [b2_t g1, if_neg n10, k_55 hSB, ck_t, c1', bd_s, if_neg n10, if_pos g1]
        obtain ⟨v, N, v1, v2⟩ := ih ow (F (a + 1)).2.1 f c0 (cs ++ (F (a + 1)).2.2 ++ [1]) C (by omega) (by omega) (by
          rw [← List.append_assoc, ← List.append_assoc]
          exact c2) (by
          rw [← List.append_assoc, ← List.append_assoc, List.length_append, List.length_append]
          show (c0 ++ cs).length + (F (a + 1)).2.2.length + 1 + bn ow ≤ _
          omega) (by omega) (by omega)
        exact ⟨v, N, v1, v2.imp id (fun q => ⟨q.1, fun fE hE => q.2 fE (by omega)⟩)⟩
      · rw [b2_f g1, if_pos rfl, if_neg g1]
        refine ⟨0, B, rfl, Or.inl ⟨rfl, rfl, ?_⟩⟩
        show MP M0 t tx cd B (F (a + 1)).2.1 (c0 ++ (cs ++ (F (a + 1)).2.2)) ov
        rw [← List.append_assoc]
        exact b2'
    · rw [if_neg g] at a2
      rw [if_neg g, if_pos rfl]
      refine ⟨1, A, rfl, Or.inr ⟨rfl, fun fE hfE => ?_⟩⟩
      obtain ⟨fe, rfl⟩ : ∃ f, fE = f + 1 := ⟨fE - 1, by omega⟩
      -- OR, if it waits
      have sO : ∃ B, cE F0 F1 F2 ow (fe + 1) A = gX12_isE_9 F0 F1 F2 (fe + 1) B 55 ∧ MP M0 t tx cd B a (c0 ++ (cs ++ (if ow = true then [2] else []))) ov := by
        unfold cE
        cases ow with
        | false =>
          refine ⟨A, if_neg (by decide), ?_⟩
          rw [show (if false = true then [2] else []) = ([] : List Nat) from rfl, List.append_nil]
          exact a2
        | true =>
          have b1 : bn true = 1 := rfl
          obtain ⟨B, b1', b2'⟩ := m_codes e a2 (c := 2) (by omega)
          have b1'' : fX12_codes A 55 2 = some (1, B) := b1'
          refine ⟨B, ?_, ?_⟩
          · rw [if_pos rfl, k_55 hSA, ck_t, b1'', bd_s, if_neg n10]
          · rw [show (if true = true then [2] else []) = [2] from rfl, ← List.append_assoc]
            exact b2'
      obtain ⟨B, b1, b2'⟩ := sO
      obtain ⟨hSB, -, -⟩ := MP_8 e b2'
      obtain ⟨C, c1, c2⟩ := m_is e b2' (x := 124) (by decide)
      obtain ⟨hSC, -, -⟩ := MP_8 e c2
      have l3 : (c0 ++ (cs ++ (if ow = true then [2] else []))).length = (c0 ++ cs).length + bn ow := by
        rw [← List.append_assoc, List.length_append, bl_len]
      rw [b1, gX12_isE_9_s, k_55 hSB, ck_t, c1, bd_s]
      by_cases g2 : nx t tx a = 124
      · rw [if_pos g2] at c2
        have hla := nx_lt' g2 (by decide)
        obtain ⟨r1, r2, r3, r4, r5⟩ := hR (a + 1) (by omega)
        obtain ⟨D, d1, d2⟩ := hF C (a + 1) _ c2 (by rw [l3]; omega) (by omega)
        have eR : pR t tx F (n + 1) ow a cs = if (F (a + 1)).1 = true then pR t tx F n true (F (a + 1)).2.1 (cs ++ (if ow = true then [2] else []) ++ (F (a + 1)).2.2) else (false, (F (a + 1)).2.1, cs ++ (if ow = true then [2] else []) ++ (F (a + 1)).2.2) := by
          unfold pR
          rw [if_neg g, if_pos g2, pL_R, show (if false = true then [1] else []) = ([] : List Nat) from rfl, List.append_nil]
          rfl
        rw [eR, if_pos g2, if_neg n10, k_55 hSC, ck_t, hT, k_55 hSC, ck_t, d1, bd_s]
        by_cases g1 : (F (a + 1)).1 = true
        · have := r5 g1
          have b1t : bn true = 1 := rfl
          obtain ⟨v, N, v1, v2⟩ := ih true (F (a + 1)).2.1 FU c0 (cs ++ (if ow = true then [2] else []) ++ (F (a + 1)).2.2) D (by omega) (by omega) (by rw [← List.append_assoc]; exact d2) (by rw [← List.append_assoc, List.length_append, l3, b1t]; omega) (by omega) (by have := FU_ge; omega)
          rw [b2_t g1, if_neg n10, v1, bd_s, if_pos g1]
          rcases v2 with ⟨rfl, v3, v4⟩ | ⟨rfl, v3⟩
          · rw [if_pos rfl]
            exact ⟨N, by rw [v3]; rfl, v4⟩
          · obtain ⟨P, p1, p2⟩ := v3 fe (by omega)
            rw [if_neg n10]
            refine ⟨P, ?_, p2⟩
            rw [← p1]
            unfold cE
            rw [if_pos rfl]
        · rw [b2_f g1, if_pos rfl, bd_s, if_pos rfl, if_neg g1]
          refine ⟨D, rfl, ?_⟩
          show MP M0 t tx cd D (F (a + 1)).2.1 (c0 ++ (cs ++ (if ow = true then [2] else []) ++ (F (a + 1)).2.2)) ov
          rw [← List.append_assoc]
          exact d2
      · rw [if_neg g2] at c2
        have eR : pR t tx F (n + 1) ow a cs = (true, a, cs ++ (if ow = true then [2] else [])) := by
          unfold pR
          rw [if_neg g, if_neg g2]
        rw [eR, if_neg g2, if_pos rfl]
        exact ⟨C, rfl, c2⟩
theorem rgB_0 (n : Nat) (M : Mem) (s : Nat) : rgB (n + 1) 0 M s = bX12_isF (rgB n 0) (rgB n 1) (rgB n 2) M s := rfl
theorem rgB_1 (n : Nat) (M : Mem) (s : Nat) : rgB (n + 1) 1 M s = bX12_isT (rgB n 0) (rgB n 1) (rgB n 2) M s := rfl
theorem rgB_2 (n : Nat) (M : Mem) (s : Nat) : rgB (n + 1) 2 M s = bX12_isE (rgB n 0) (rgB n 1) (rgB n 2) M s := rfl
theorem m_E (e : ME M0 t tx cd) {n k : Nat} {ov : Int32} (hF : TF M0 t tx cd (rgB n 0) ov (pF t tx k)) : TF M0 t tx cd (rgB (n + 2) 2) ov (pE t tx k) := by
  have ht1 := e.2.1
  have hR := pF_rd (tx := tx) e.2.2.1 k
  intro M a cs h hl h1
  obtain ⟨hS, -, -⟩ := MP_8 e h
  have hat := h.2.2.2.2.1
  obtain ⟨r1, r2, r3, r4, r5⟩ := hR a hat
  obtain ⟨A, a1, a2⟩ := hF M a cs h hl h1
  have eT : ∀ M, rgB (n + 1) 1 M 55 = ck (isK M 55 12) (bd (rgB n 0 M 55) fun x2 M2 => if x2 = 0 then (some ((0 : Int32), M2)) else (gX12_isT_9 (rgB n 0) (rgB n 1) (rgB n 2) FU M2 55)) := fun M => rfl
  have eE : pE t tx k a = if (pF t tx k a).1 = true then pR t tx (pF t tx k) 99 false (pF t tx k a).2.1 (pF t tx k a).2.2 else (false, (pF t tx k a).2.1, (pF t tx k a).2.2) := by
    show pL t tx (pF t tx k) (99 + 1) false false a [] = _
    rw [pL_R, show (if false = true then [1] else []) = ([] : List Nat) from rfl, List.append_nil, List.nil_append]
  have e2 : rgB (n + 2) 2 M 55 = ck (isK M 55 12) (bd (rgB (n + 1) 1 M 55) fun x2 M2 => if x2 = 0 then (some ((0 : Int32), M2)) else (gX12_isE_9 (rgB (n + 1) 0) (rgB (n + 1) 1) (rgB (n + 1) 2) FU M2 55)) := rfl
  rw [e2, eT, eE, k_55 hS, ck_t, ck_t, a1, bd_s]
  by_cases g : (pF t tx k a).1 = true
  · have := r5 g
    obtain ⟨v, N, v1, v2⟩ := m_R e (F0 := rgB (n + 1) 0) (F1 := rgB (n + 1) 1) (F2 := rgB (n + 1) 2) (G1 := rgB n 1) (G2 := rgB n 2) hF hR eT 99 false (pF t tx k a).2.1 FU cs (pF t tx k a).2.2 A (by omega) (by omega) a2 (by rw [List.length_append]; show _ + 0 ≤ _; omega) (by omega) (by have := FU_ge; omega)
    rw [b2_t g, if_neg n10, v1, bd_s, if_pos g]
    rcases v2 with ⟨rfl, v3, v4⟩ | ⟨rfl, v3⟩
    · rw [if_pos rfl]
      exact ⟨N, by rw [v3]; rfl, v4⟩
    · rw [if_neg n10]
      exact v3 FU (by have := FU_ge; omega)
  · rw [b2_f g, if_pos rfl, bd_s, if_pos rfl, if_neg g]
    exact ⟨A, rfl, a2⟩
theorem m_72 (e : ME M0 t tx cd) {F0 F1 F2 : Mem → Nat → Option (Int32 × Mem)} {M : Mem} {a k : Nat} {cs : List Nat} {b : Bool} (hk : k + 1 ≤ 4) (h : MP M0 t tx cd M a cs (nI (4 - k))) : ∃ N, gX12_isF_72 F0 F1 F2 M 55 (b2 b) = some (b2 b, N) ∧ MP M0 t tx cd N a cs (nI (4 - (k + 1))) := by
  obtain ⟨hS, -, -⟩ := MP_8 e h
  refine ⟨stI M 55 13 (nI (4 - (k + 1))), ?_, MP_f h (Or.inr (Or.inr ⟨rfl, rfl, rfl⟩))⟩
  have hb : b01 (b2 b) = true := by cases b <;> rfl
  unfold gX12_isF_72
  rw [k_55 hS, ck_t, hb, ck_t, h.2.2.2.2.2.2.1, show (1 : Int32) = nI 1 from rfl, pk_sub (by omega), show 4 - k - 1 = 4 - (k + 1) by omega]
theorem m_F (e : ME M0 t tx cd) : ∀ (k m : Nat), k ≤ 4 → TF M0 t tx cd (rgB (m + 3 * k + 1) 0) (nI (4 - k)) (pF t tx k) := by
  have ht1 := e.2.1
  intro k
  induction k with
  | zero =>
    intro m hk M a cs h hl h1
    obtain ⟨hS, -, -⟩ := MP_8 e h
    have hat := h.2.2.2.2.1
    have o1 := (m_opened e (x := 33) hk h (by decide)).1 rfl
    have o2 := (m_opened e (x := 40) hk h (by decide)).1 rfl
    obtain ⟨N, n1, n2⟩ := m_test e h (by omega)
    have eF : pF t tx 0 a = pTest t tx a := by
      unfold pF pTest
      by_cases g : nx t tx a = 33
      · rw [if_pos g, if_pos (by rw [g]; decide)]
      · rw [if_neg g]
        by_cases g2 : nx t tx a = 40
        · rw [if_pos g2, if_pos (by rw [g2]; decide)]
        · rw [if_neg g2]
    have hb : b01 (b2 (pTest t tx a).1) = true := by cases (pTest t tx a).1 <;> rfl
    rw [rgB_0, eF]
    unfold bX12_isF
    rw [k_55 hS, ck_t, o1, bd_s, if_pos rfl, k_55 hS, ck_t, o2, bd_s, if_pos rfl, k_55 hS, ck_t, n1, bd_s, hb, ck_t]
    exact ⟨N, rfl, n2⟩
  | succ k ih =>
    intro m hk M a cs h hl h1
    obtain ⟨hS, -, -⟩ := MP_8 e h
    have hat := h.2.2.2.2.1
    have hF := ih (m + 2) (by omega)
    have hE := m_E e (ih m (by omega))
    rw [show m + 2 + 3 * k + 1 = m + 3 * k + 3 by omega] at hF
    rw [show m + 3 * k + 1 + 2 = m + 3 * k + 3 by omega] at hE
    rw [show m + 3 * (k + 1) + 1 = (m + 3 * k + 3) + 1 by omega, rgB_0]
    obtain ⟨-, on, oy⟩ := m_opened e (x := 33) hk h (by decide)
    unfold bX12_isF pF
    rw [k_55 hS, ck_t]
    by_cases g : nx t tx a = 33
    · rw [if_pos g]
      have hla := nx_lt' g (by decide)
      obtain ⟨A, a1, a2⟩ := oy k rfl g
      obtain ⟨hSA, -, -⟩ := MP_8 e a2
      obtain ⟨B, b1, b2'⟩ := hF A (a + 1) cs a2 (by omega) (by omega)
      obtain ⟨hSB, -, -⟩ := MP_8 e b2'
      obtain ⟨f1, f2, f3, f4, f5⟩ := pF_rd (tx := tx) e.2.2.1 k (a + 1) (by omega)
      rw [a1, bd_s, if_neg n10, k_55 hSA, ck_t, b1, bd_s]
      by_cases g1 : (pF t tx k (a + 1)).1 = true
      · obtain ⟨C, c1, c2⟩ := m_codes e b2' (c := 0) (by rw [List.length_append]; omega)
        have c1' : fX12_codes B 55 0 = some (1, C) := c1
        obtain ⟨D, d1, d2⟩ := m_72 e (F0 := rgB (m + 3 * k + 3) 0) (F1 := rgB (m + 3 * k + 3) 1) (F2 := rgB (m + 3 * k + 3) 2) (b := true) hk c2
        rw [b2_t g1, if_neg n10, k_55 hSB, ck_t, c1', bd_s, if_neg n10, if_pos g1]
        refine ⟨D, d1, ?_⟩
        show MP M0 t tx cd D (pF t tx k (a + 1)).2.1 (cs ++ ((pF t tx k (a + 1)).2.2 ++ [0])) (nI (4 - (k + 1)))
        rw [← List.append_assoc]
        exact d2
      · obtain ⟨D, d1, d2⟩ := m_72 e (F0 := rgB (m + 3 * k + 3) 0) (F1 := rgB (m + 3 * k + 3) 1) (F2 := rgB (m + 3 * k + 3) 2) (b := false) hk b2'
        rw [b2_f g1, if_pos rfl, if_neg g1, b2_f g1]
        exact ⟨D, d1, d2⟩
    · rw [if_neg g]
      obtain ⟨A, a1, a2⟩ := on g
      obtain ⟨hSA, -, -⟩ := MP_8 e a2
      obtain ⟨-, on2, oy2⟩ := m_opened e (x := 40) hk a2 (by decide)
      rw [a1, bd_s, if_pos rfl, k_55 hSA, ck_t]
      by_cases g2 : nx t tx a = 40
      · rw [if_pos g2]
        have hla := nx_lt' g2 (by decide)
        obtain ⟨B, b1, b2'⟩ := oy2 k rfl g2
        obtain ⟨hSB, -, -⟩ := MP_8 e b2'
        obtain ⟨C, c1, c2⟩ := hE B (a + 1) cs b2' (by omega) (by omega)
        obtain ⟨hSC, -, -⟩ := MP_8 e c2
        rw [b1, bd_s, if_neg n10, k_55 hSB, ck_t, c1, bd_s]
        show ∃ N, (if b2 (pL t tx (pF t tx k) 100 false false (a + 1) []).1 = 0 then _ else _) = _ ∧ _
        by_cases g3 : (pL t tx (pF t tx k) 100 false false (a + 1) []).1 = true
        · obtain ⟨D, d1, d2⟩ := m_is e c2 (x := 41) (by decide)
          have d1' : fX12_is C 55 41 = some (if nx t tx (pL t tx (pF t tx k) 100 false false (a + 1) []).2.1 = 41 then 1 else 0, D) := d1
          have d2' : MP M0 t tx cd D (if nx t tx (pL t tx (pF t tx k) 100 false false (a + 1) []).2.1 = 41 then (pL t tx (pF t tx k) 100 false false (a + 1) []).2.1 + 1 else (pL t tx (pF t tx k) 100 false false (a + 1) []).2.1) (cs ++ (pL t tx (pF t tx k) 100 false false (a + 1) []).2.2) (nI (4 - k)) := d2
          rw [b2_t g3, if_neg n10, k_55 hSC, ck_t, d1', bd_s, if_pos g3]
          by_cases g4 : nx t tx (pL t tx (pF t tx k) 100 false false (a + 1) []).2.1 = 41
          · rw [if_pos g4] at d2'
            obtain ⟨E, e1, e2⟩ := m_72 e (F0 := rgB (m + 3 * k + 3) 0) (F1 := rgB (m + 3 * k + 3) 1) (F2 := rgB (m + 3 * k + 3) 2) (b := true) hk d2'
            rw [if_pos g4, if_neg n10, if_pos g4]
            exact ⟨E, e1, e2⟩
          · rw [if_neg g4] at d2'
            obtain ⟨E, e1, e2⟩ := m_72 e (F0 := rgB (m + 3 * k + 3) 0) (F1 := rgB (m + 3 * k + 3) 1) (F2 := rgB (m + 3 * k + 3) 2) (b := false) hk d2'
            rw [if_neg g4, if_pos rfl, if_neg g4]
            exact ⟨E, e1, e2⟩
        · obtain ⟨E, e1, e2⟩ := m_72 e (F0 := rgB (m + 3 * k + 3) 0) (F1 := rgB (m + 3 * k + 3) 1) (F2 := rgB (m + 3 * k + 3) 2) (b := false) hk c2
          rw [b2_f g3, if_pos rfl, if_neg g3, b2_f g3]
          exact ⟨E, e1, e2⟩
      · rw [if_neg g2]
        obtain ⟨B, b1, b2'⟩ := on2 g2
        obtain ⟨hSB, -, -⟩ := MP_8 e b2'
        obtain ⟨N, n1, n2⟩ := m_test e b2' (by omega)
        have hb : b01 (b2 (pTest t tx a).1) = true := by cases (pTest t tx a).1 <;> rfl
        rw [b1, bd_s, if_pos rfl, k_55 hSB, ck_t, n1, bd_s, hb, ck_t]
        exact ⟨N, rfl, n2⟩
theorem m_E4 (e : ME M0 t tx cd) : TF M0 t tx cd (rgB 24 2) 0 (pE t tx 4) := m_E e (n := 22) (m_F e 4 9 (Nat.le_refl _))
end MREAD
