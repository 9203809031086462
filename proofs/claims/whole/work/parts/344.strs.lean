/-! ===== constant strings ===== -/
theorem isS_n {j : Nat} (h : j < 10) : isS j = true := decide_eq_true h
theorem isB_n {j : Nat} (h : j < 10) : isB (10 + j) = true := decide_eq_true ⟨by omega, by omega⟩
theorem xl_6 : ∀ j, j < 10 → xLen.getD j 0 ≤ 6 ∧ (xByt.getD j []).length = xLen.getD j 0 ∧ (∀ c, c ∈ xByt.getD j [] → ¬ c = -1) := by decide +kernel
theorem xl_s : ∀ j, j < 10 → (Int32.ofNat (xLen.getD j 0)) >>> ((0 : Int32) &&& 31) = nI (xLen.getD j 0) := by decide +kernel
theorem xc_n : ∀ j, j < 10 → ∀ i, i < 6 → ((((xByt.getD j []).getD i 0) &&& (255 : Int32)).toUInt32 % 65536).toInt32 = (xByt.getD j []).getD i 0 := by decide +kernel
theorem xc_k : ∀ j, j < 10 → ∀ i, i < 6 → ∃ q, q < 128 ∧ (xByt.getD j []).getD i 0 = nI q := by
  have h : ∀ j, j < 10 → ∀ i, i < 6 → ((xByt.getD j []).getD i 0).toNatClampNeg < 128 ∧ (xByt.getD j []).getD i 0 = nI ((xByt.getD j []).getD i 0).toNatClampNeg := by decide +kernel
  intro j hj i hi
  exact ⟨_, h j hj i hi⟩
theorem okc_n {q : Nat} (h : q < 128) : okc (nI q) = true := decide_eq_true (pk_charN (by omega)).1
theorem p_len {M : Mem} {j : Nat} (h : j < 10) : fJ0_length_8abf5 M j = some (nI (xLen.getD j 0), M) := by
  unfold fJ0_length_8abf5
  rw [isS_n h, isB_n h, ck_t, ck_t, ck_t, show 10 + j - 10 = j by omega, xl_s j h]
theorem p_chr {M : Mem} {j i : Nat} (h : j < 10) (hi : i < xLen.getD j 0) : fJ0_charAt_5068e M j (nI i) = some ((xByt.getD j []).getD i 0, M) := by
  have h6 := (xl_6 j h).1
  obtain ⟨q, q1, q2⟩ := xc_k j h i (by omega)
  have e1 : nI i < Int32.ofNat (xLen.getD j 0) := by
    show nI i < nI (xLen.getD j 0)
    rw [ltL (by omega) (by omega)]
    exact hi
  unfold fJ0_charAt_5068e fJ1_charAt_3b067 fJ0_checkIndex_df160 fJ3_checkIndex
  rw [isS_n h, isB_n h, ck_t, ck_t, ck_t, show 10 + j - 10 = j by omega, if_neg (nI_pos (by omega)), if_pos e1, bd_s, bd_s, ck_t, inb_n hi (by omega), ck_t, tn (show i < 1000000 by omega), xc_n j h i (by omega), q2, okc_n q1, ck_t, bd_s, okc_n q1, ck_t]
def ixo (w : List Int32) (x : Int32) : Nat → Nat → Int32
  | 0, _ => -1
  | k + 1, i => if w.getD i 0 = x then nI i else ixo w x k (i + 1)
theorem p_ixL {M : Mem} {j : Nat} {x : Int32} (h : j < 10) : ∀ (k m i : Nat), i + k = xLen.getD j 0 → gJ1_indexOfChar_4cfef_7 (m + k + 1) M (10 + j) (nI (xLen.getD j 0)) x (nI i) = some (ixo (xByt.getD j []) x k i, M) := by
  have h6 := (xl_6 j h).1
  intro k
  induction k with
  | zero =>
    intro m i hi
    rw [gJ1_indexOfChar_4cfef_7_s, if_pos (by rw [leL (by omega) (by omega)]; omega)]
    rfl
  | succ k ih =>
    intro m i hi
    rw [show m + (k + 1) + 1 = (m + k + 1) + 1 by omega, gJ1_indexOfChar_4cfef_7_s, if_neg (by rw [leL (by omega) (by omega)]; omega), isB_n h, ck_t, show 10 + j - 10 = j by omega, inb_n (show i < xLen.getD j 0 by omega) (by omega), ck_t, tn (show i < 1000000 by omega), nI_1]
    unfold ixo
    split
    · rfl
    · exact ih m (i + 1) (by omega)
theorem b_8 : ∀ b, b < 128 → (nI b).toInt8.toInt32 = nI b ∧ ((nI b).toUInt32 % 65536).toInt32 = nI b := by decide +kernel
theorem p_ix {M : Mem} {j b : Nat} (h : j < 10) (h0 : 0 < xLen.getD j 0) (hb : b < 128) : fJ0_indexOf_0f7a4 M j (nI b) = some (ixo (xByt.getD j []) (nI b) (xLen.getD j 0) 0, M) := by
  have h6 := (xl_6 j h).1
  have e1 : ¬ (255 : Int32) < nI b := by
    rw [show (255 : Int32) = nI 255 from rfl, ltL (by omega) (by omega)]
    omega
  have e2 : (if (Int32.ofNat (xLen.getD j 0)) < nI (xLen.getD j 0) then (Int32.ofNat (xLen.getD j 0)) else nI (xLen.getD j 0)) = nI (xLen.getD j 0) := if_neg (fun q => Int32.lt_irrefl q)
  have e3 : (if (0 : Int32) < 0 then (0 : Int32) else 0) = 0 := if_neg (by decide)
  have e4 : (0 : Int32) < nI (xLen.getD j 0) := by
    rw [show (0 : Int32) = nI 0 from rfl, ltL (by omega) (by omega)]
    exact h0
  obtain ⟨m, hm⟩ := FUs (xLen.getD j 0) (by omega)
  have u := p_ixL (M := M) (x := nI b) h (xLen.getD j 0) m 0 (by omega)
  rw [← hm] at u
  unfold fJ0_indexOf_0f7a4 fJ0_indexOf_7cf53
  rw [isS_n h, ck_t, ck_t, ck_t, ck_t, p_len h, bd_s]
  unfold fJ1_indexOf_4cfef fJ1_canEncode_9a6ad
  rw [if_neg (nI_pos (by omega)), if_neg e1, bd_s, if_neg (by decide), isB_n h, ck_t, show 10 + j - 10 = j by omega, e2, e3, if_pos e4]
  unfold fJ1_indexOfChar_4cfef
  rw [(b_8 b hb).1]
  have u' : gJ1_indexOfChar_4cfef_7 FU M (10 + j) (nI (xLen.getD j 0)) (nI b) 0 = some (ixo (xByt.getD j []) (nI b) (xLen.getD j 0) 0, M) := u
  rw [u', bd_s, bd_s, bd_s]
def lxI (x : Int32) : Int32 := if lix x = 6 then -1 else nI (lix x)
def sxI (x : Int32) : Int32 := if six x = 3 then -1 else nI (six x)
theorem ix_5 : ∀ b, b < 128 → ixo (xByt.getD 5 []) (nI b) (xLen.getD 5 0) 0 = lxI (nI b) := by decide +kernel
theorem ix_6 : ∀ b, b < 128 → ixo (xByt.getD 6 []) (nI b) (xLen.getD 6 0) 0 = sxI (nI b) := by decide +kernel
theorem lxI_m : lxI (-1) = -1 ∧ sxI (-1) = -1 := by decide
theorem lxI_0 : lxI 0 = -1 ∧ sxI 0 = -1 := by decide
/-! ===== the class reads ===== -/
def cv (c : Nat) : Nat := if c = 0 then 4096 else if c = 1 then 8192 else if c = 2 then 12288 else (c - 3) / 300 * 512 + (c - 3) / 100 % 3 * 128 + (c - 3) % 100
def b2 (b : Bool) : Int32 := if b = true then 1 else 0
def CE (M0 : Mem) (s t : Nat) (tx : Nat → Nat) : Prop := isK M0 s 7 = true ∧ mR M0 s 0 = some (s + 1) ∧ isK M0 (s + 1) 14 = true ∧ mG M0 (s + 1) = 100 ∧ mR M0 s 3 = some 13 ∧ isK M0 13 13 = true ∧ mG M0 13 = 100 ∧ (s ≠ 13 ∧ s + 1 ≠ 13) ∧ t ≤ 100 ∧ (∀ i, i < t → tx i < 128) ∧ ∀ i, i < t → mI M0 13 i = nI (tx i)
def CP (M0 : Mem) (s t : Nat) (tx : Nat → Nat) (M : Mem) (a : Nat) (ss : List Nat) (bv : Int32) : Prop := M.1 = M0.1 ∧ M.2.2 = M0.2.2 ∧ (∀ b, b ≠ s → b ≠ s + 1 → M.2.1 b = M0.2.1 b) ∧ a ≤ t ∧ mI M s 4 = nI t ∧ mI M s 5 = nI a ∧ mI M s 6 = nx t tx a ∧ mI M s 2 = bv ∧ mI M s 1 = nI ss.length ∧ ∀ i, i < ss.length → ∃ c, ss[i]? = some c ∧ mI M (s + 1) i = nI c
theorem CE_M {M0 M : Mem} {s t : Nat} {tx : Nat → Nat} (e : CE M0 s t tx) (h : M.1 = M0.1) : isK M s 7 = true ∧ mR M s 0 = some (s + 1) ∧ isK M (s + 1) 14 = true ∧ mG M (s + 1) = 100 ∧ mR M s 3 = some 13 ∧ isK M 13 13 = true ∧ mG M 13 = 100 := by
  obtain ⟨e1, e2, e3, e4, e5, e6, e7, -⟩ := e
  unfold isK mR mG mN mK at *
  rw [h]
  exact ⟨e1, e2, e3, e4, e5, e6, e7⟩
section CREAD
variable {M0 : Mem} {s t : Nat} {tx : Nat → Nat}
theorem c_goTo (e : CE M0 s t tx) {M : Mem} {a : Nat} {ss : List Nat} {bv : Int32} (h : CP M0 s t tx M a ss bv) (ha : a < t) : ∃ N, fX7_goTo M s (mI M s 5 + 1) = some ((), N) ∧ CP M0 s t tx N (a + 1) ss bv := by
  obtain ⟨m1, m2, m3, m4, m5, m6, m7⟩ := CE_M e h.1
  obtain ⟨-, -, -, -, -, -, -, ⟨n1, n2⟩, ht, hx, hr⟩ := e
  obtain ⟨h1, h2, h3, h4, h5, h6, h7, h8, h9, h10⟩ := h
  refine ⟨stI (stI M s 5 (nI (a + 1))) s 6 (nx t tx (a + 1)), ?_, h1, h2, fun b b1 b2 => ?_, ha, ?_, ?_, ?_, ?_, ?_, fun i hi => ?_⟩
  · have u4 : mI (stI M s 5 (nI (a + 1))) s 4 = nI t := by rw [mI_stI, if_neg (by omega)]; exact h5
    unfold fX7_goTo
    rw [h6, nI_1, m1, ck_t, if_neg (nI_pos (by omega)), u4]
    by_cases g : a + 1 < t
    · have e13 : mI (stI M s 5 (nI (a + 1))) 13 (a + 1) = nx t tx (a + 1) := by
        rw [mI_stI, if_neg (by omega)]
        have : mI M 13 (a + 1) = mI M0 13 (a + 1) := congrFun (h3 13 (by omega) (by omega)) _
        rw [this, hr _ g]
        exact (if_pos g).symm
      rw [if_neg (by rw [leL (by omega) (by omega)]; omega), mR_stI, m5, rb_s, isK_stI, m6, ck_t, mG_stI, m7, inb_n (show a + 1 < 100 by omega) (by decide), ck_t, tn (show a + 1 < 1000000 by omega), e13]
    · rw [if_pos (by rw [leL (by omega) (by omega)]; omega)]
      have : nx t tx (a + 1) = -1 := if_neg g
      rw [this]
  · rw [row_st b1, row_st b1]
    exact h3 b b1 b2
  · rw [mI_stI, if_neg (by omega), mI_stI, if_neg (by omega)]
    exact h5
  · rw [mI_stI, if_neg (by omega), mI_stI, if_pos ⟨rfl, rfl⟩]
  · rw [mI_stI, if_pos ⟨rfl, rfl⟩]
  · rw [mI_stI, if_neg (by omega), mI_stI, if_neg (by omega)]
    exact h8
  · rw [mI_stI, if_neg (by omega), mI_stI, if_neg (by omega)]
    exact h9
  · obtain ⟨c, c1, c2⟩ := h10 i hi
    refine ⟨c, c1, ?_⟩
    rw [mI_stI, if_neg (by omega), mI_stI, if_neg (by omega)]
    exact c2
theorem c_add (e : CE M0 s t tx) {M : Mem} {a : Nat} {ss : List Nat} {bv : Int32} (h : CP M0 s t tx M a ss bv) (hl : ss.length < 100) {x y : Int32} {c : Nat} (hc : (x <<< ((12 : Int32) &&& 31)) ||| y = nI c) : ∃ N, fX7_addStep M s x y = some ((), N) ∧ CP M0 s t tx N a (ss ++ [c]) bv := by
  obtain ⟨m1, m2, m3, m4, m5, m6, m7⟩ := CE_M e h.1
  obtain ⟨h1, h2, h3, h4, h5, h6, h7, h8, h9, h10⟩ := h
  have u1 : mI (stI M (s + 1) ss.length (nI c)) s 1 = nI ss.length := by rw [mI_stI, if_neg (by omega)]; exact h9
  refine ⟨stI (stI M (s + 1) ss.length (nI c)) s 1 (nI (ss.length + 1)), ?_, h1, h2, fun b b1 b2 => ?_, h4, ?_, ?_, ?_, ?_, ?_, fun i hi => ?_⟩
  · unfold fX7_addStep
    rw [m1, ck_t, h9, if_neg (by rw [show (100 : Int32) = nI 100 from rfl, leL (by omega) (by omega)]; omega), m2, rb_s, m3, ck_t, m4, inb_n hl (by decide), ck_t, nm_s, tn (show ss.length < 1000000 by omega), hc, u1, nI_1]
  · rw [row_st b1, row_st b2]
    exact h3 b b1 b2
  · rw [mI_stI, if_neg (by omega), mI_stI, if_neg (by omega)]
    exact h5
  · rw [mI_stI, if_neg (by omega), mI_stI, if_neg (by omega)]
    exact h6
  · rw [mI_stI, if_neg (by omega), mI_stI, if_neg (by omega)]
    exact h7
  · rw [mI_stI, if_neg (by omega), mI_stI, if_neg (by omega)]
    exact h8
  · rw [mI_stI, if_pos ⟨rfl, rfl⟩, List.length_append]
    rfl
  · rw [List.length_append] at hi
    have hi' : i < ss.length + 1 := hi
    rw [mI_stI, if_neg (by omega), mI_stI]
    by_cases g : i = ss.length
    · subst g
      exact ⟨c, List.getElem?_concat_length, if_pos ⟨rfl, rfl⟩⟩
    · obtain ⟨d, d1, d2⟩ := h10 i (by omega)
      exact ⟨d, by rw [List.getElem?_append_left (by omega)]; exact d1, by rw [if_neg (by omega)]; exact d2⟩
theorem drop_s {w : List Int32} {i : Nat} (h : i < w.length) : w.drop i = w.getD i 0 :: w.drop (i + 1) := by
  rw [List.drop_eq_getElem_cons h, List.getD_eq_getElem?_getD, List.getElem?_eq_getElem h]
  rfl
theorem getD_mem {w : List Int32} {i : Nat} (h : i < w.length) : w.getD i 0 ∈ w := by
  rw [List.getD_eq_getElem?_getD, List.getElem?_eq_getElem h]
  exact List.getElem_mem h
theorem c_wordL (e : CE M0 s t tx) {j : Nat} (hj : j < 10) : ∀ (k m i : Nat) (M : Mem) (a : Nat) (ss : List Nat) (bv : Int32), CP M0 s t tx M a ss bv → i + k = xLen.getD j 0 → ∃ N, gX7_readWord_2 (m + k + 1) M s j (nI i) = some (b2 (pWord t tx ((xByt.getD j []).drop i) a).1, N) ∧ CP M0 s t tx N (pWord t tx ((xByt.getD j []).drop i) a).2 ss bv := by
  obtain ⟨x1, x2, x3⟩ := xl_6 j hj
  intro k
  induction k with
  | zero =>
    intro m i M a ss bv h hi
    have : (xByt.getD j []).drop i = [] := List.drop_eq_nil_of_le (by omega)
    rw [this]
    refine ⟨M, ?_, h⟩
    rw [gX7_readWord_2_s, isS_n hj, ck_t, p_len hj, bd_s, if_pos (by rw [leL (by omega) (by omega)]; omega)]
    rfl
  | succ k ih =>
    intro m i M a ss bv h hi
    have m1 := (CE_M e h.1).1
    rw [drop_s (by omega)]
    rw [show m + (k + 1) + 1 = (m + k + 1) + 1 by omega, gX7_readWord_2_s, isS_n hj, ck_t, p_len hj, bd_s, if_neg (by rw [leL (by omega) (by omega)]; omega), m1, ck_t, ck_t, p_chr hj (by omega), bd_s, h.2.2.2.2.2.2.1]
    unfold pWord
    by_cases g : nx t tx a = (xByt.getD j []).getD i 0
    · have hm : (xByt.getD j []).getD i 0 ∈ xByt.getD j [] := getD_mem (by omega)
      have hl := nx_lt' g (x3 _ hm)
      obtain ⟨N, n1, n2⟩ := c_goTo e h hl
      obtain ⟨P, p1, p2⟩ := ih m (i + 1) N (a + 1) ss bv n2 (by omega)
      rw [if_pos g, if_pos g, m1, ck_t, n1, bd_s, nI_1]
      exact ⟨P, p1, p2⟩
    · rw [if_neg g, if_neg g]
      exact ⟨M, rfl, h⟩
theorem c_word (e : CE M0 s t tx) {j : Nat} (hj : j < 10) {M : Mem} {a : Nat} {ss : List Nat} {bv : Int32} (h : CP M0 s t tx M a ss bv) : ∃ N, fX7_readWord M s j = some (b2 (pWord t tx (xByt.getD j []) a).1, N) ∧ CP M0 s t tx N (pWord t tx (xByt.getD j []) a).2 ss bv := by
  obtain ⟨x1, x2, x3⟩ := xl_6 j hj
  obtain ⟨m, hm⟩ := FUs (xLen.getD j 0) (by omega)
  have := c_wordL e hj (xLen.getD j 0) m 0 M a ss bv h (by omega)
  rw [← hm] at this
  exact this
theorem dg_iff {x : Int32} : dg x = true ↔ ¬ x < 48 ∧ ¬ 57 < x := by
  unfold dg
  rw [Bool.and_eq_true, decide_eq_true_eq, decide_eq_true_eq, nlt, nlt]
theorem c_num (e : CE M0 s t tx) {M : Mem} {a : Nat} {ss : List Nat} {bv : Int32} (h : CP M0 s t tx M a ss bv) : ∃ N, fX7_readNumber M s = some (if (pNum t tx a).1 = true then nI (pNum t tx a).2.2 else -1, N) ∧ CP M0 s t tx N (pNum t tx a).2.1 ss bv := by
  have ht := e.2.2.2.2.2.2.2.2.2.1
  have m1 := (CE_M e h.1).1
  have h7 := h.2.2.2.2.2.2.1
  unfold fX7_readNumber pNum
  rw [m1, ck_t, h7]
  by_cases g : dg (nx t tx a) = true
  · obtain ⟨g1, g2, g3, g4⟩ := dg_n ht g
    obtain ⟨d1, d2⟩ := dg_iff.mp g
    obtain ⟨N, n1, n2⟩ := c_goTo e h g1
    have m1N := (CE_M e n2.1).1
    rw [if_neg d1, if_pos (nlt.mp d2), n1, bd_s, m1N, ck_t, n2.2.2.2.2.2.2.1, if_pos g]
    have e48 : nx t tx a - 48 = nI (tx a - 48) := by
      rw [g2, show (48 : Int32) = nI 48 from rfl, pk_sub g3]
    by_cases g' : dg (nx t tx (a + 1)) = true
    · obtain ⟨k1, k2, k3, k4⟩ := dg_n ht g'
      obtain ⟨d1', d2'⟩ := dg_iff.mp g'
      obtain ⟨P, p1, p2⟩ := c_goTo e n2 k1
      refine ⟨P, ?_, by rw [if_pos g']; exact p2⟩
      rw [if_neg d1', if_neg d2', p1, bd_s, if_pos g', if_pos rfl, e48, k2, show (48 : Int32) = nI 48 from rfl, show (10 : Int32) = nI 10 from rfl, pk_mul, nI_add, pk_sub (by omega)]
      show some (nI ((tx a - 48) * 10 + tx (a + 1) - 48), P) = some (nI (10 * (tx a - 48) + (tx (a + 1) - 48)), P)
      rw [show (tx a - 48) * 10 + tx (a + 1) - 48 = 10 * (tx a - 48) + (tx (a + 1) - 48) by omega]
    · refine ⟨N, ?_, by rw [if_neg g']; exact n2⟩
      rw [if_neg g', if_pos rfl, e48]
      by_cases k : nx t tx (a + 1) < 48
      · rw [if_pos k]
      · rw [if_neg k, if_pos (Classical.byContradiction (fun q => g' (dg_iff.mpr ⟨k, q⟩)))]
  · refine ⟨M, ?_, by rw [if_neg g]; exact h⟩
    rw [if_neg g]
    show (if nx t tx a < 48 then _ else _) = some (-1, M)
    by_cases k : nx t tx a < 48
    · rw [if_pos k]
    · rw [if_neg k, if_neg (fun q => g (dg_iff.mpr ⟨k, nlt.mpr q⟩))]
theorem nx_c (ht : ∀ i, i < t → tx i < 128) (a : Nat) : (nx t tx a = -1 ∧ ¬ 0 ≤ nx t tx a) ∨ ∃ b, b < 128 ∧ nx t tx a = nI b ∧ 0 ≤ nx t tx a := by
  by_cases g : a < t
  · have e : nx t tx a = nI (tx a) := if_pos g
    have := ht a g
    exact Or.inr ⟨tx a, this, e, by rw [e]; exact nI_pos' (by omega)⟩
  · have e : nx t tx a = -1 := if_neg g
    exact Or.inl ⟨e, by rw [e]; decide⟩
theorem cv_t : ∀ l, l < 6 → ∀ g, g < 3 → ∀ v, v < 100 → ((0 : Int32) <<< ((12 : Int32) &&& 31)) ||| ((((nI l) <<< ((9 : Int32) &&& 31)) ||| ((nI g) <<< ((7 : Int32) &&& 31))) ||| nI v) = nI (l * 512 + g * 128 + v) := by decide +kernel
theorem cv_c {l g v : Nat} (hl : l < 6) (hg : g < 3) (hv : v < 100) : cv (3 + 300 * l + 100 * g + v) = l * 512 + g * 128 + v := by
  unfold cv
  rw [if_neg (by omega), if_neg (by omega), if_neg (by omega), show (3 + 300 * l + 100 * g + v - 3) / 300 = l by omega, show (3 + 300 * l + 100 * g + v - 3) / 100 % 3 = g by omega, show (3 + 300 * l + 100 * g + v - 3) % 100 = v by omega]
theorem lxI_c (x : Int32) : (lix x = 6 ∧ lxI x = -1 ∧ ¬ 0 ≤ lxI x) ∨ (¬ lix x = 6 ∧ lix x < 6 ∧ lxI x = nI (lix x) ∧ 0 ≤ lxI x) := by
  have := lix_6 x
  unfold lxI
  by_cases g : lix x = 6
  · rw [if_pos g]
    exact Or.inl ⟨g, rfl, by decide⟩
  · rw [if_neg g]
    exact Or.inr ⟨g, by omega, rfl, nI_pos' (by omega)⟩
theorem sxI_c (x : Int32) : (six x = 3 ∧ sxI x = -1 ∧ ¬ 0 ≤ sxI x) ∨ (¬ six x = 3 ∧ six x < 3 ∧ sxI x = nI (six x) ∧ 0 ≤ sxI x) := by
  have := six_3 x
  unfold sxI
  by_cases g : six x = 3
  · rw [if_pos g]
    exact Or.inl ⟨g, rfl, by decide⟩
  · rw [if_neg g]
    exact Or.inr ⟨g, by omega, rfl, nI_pos' (by omega)⟩
theorem c_test (e : CE M0 s t tx) {M : Mem} {a : Nat} {ss : List Nat} {bv : Int32} (h : CP M0 s t tx M a ss bv) (hl : ss.length ≤ a) : ∃ N, fX7_readTest M s = some (b2 (pTest t tx a).1, N) ∧ CP M0 s t tx N (pTest t tx a).2.1 (ss ++ (pTest t tx a).2.2.map cv) bv := by
  have ht := e.2.2.2.2.2.2.2.2.2.1
  have ht1 := e.2.2.2.2.2.2.2.2.1
  have m1 := (CE_M e h.1).1
  have h7 := h.2.2.2.2.2.2.1
  have s1 : fX7_readTest M s = gX7_readTest_21 M s (lxI (nx t tx a)) := by
    unfold fX7_readTest
    rw [m1, ck_t, h7]
    rcases nx_c ht a with ⟨e1, e2⟩ | ⟨b, hb, e1, e2⟩
    · rw [if_neg e2, e1, lxI_m.1]
    · rw [if_pos e2, isS_n (by decide), ck_t, e1, (b_8 b hb).2, p_ix (by decide) (by decide) hb, bd_s, ix_5 b hb]
  rw [s1]
  unfold gX7_readTest_21 pTest
  rcases lxI_c (nx t tx a) with ⟨l1, l2, l3⟩ | ⟨l1, l2, l3, l4⟩
  · rw [if_neg l3, if_pos l1]
    exact ⟨M, rfl, by show CP M0 s t tx M a (ss ++ []) bv; rw [List.append_nil]; exact h⟩
  · have hla := lix_lt l1
    obtain ⟨N, n1, n2⟩ := c_goTo e h hla
    have m1N := (CE_M e n2.1).1
    have h7N := n2.2.2.2.2.2.2.1
    rw [if_pos l4, if_neg l1, m1, ck_t, n1, bd_s, m1N, ck_t, h7N]
    have s2 : (if 0 ≤ nx t tx (a + 1) then (ck (isS 6) <| bd (fJ0_indexOf_0f7a4 N 6 (((nx t tx (a + 1)).toUInt32 % 65536).toInt32)) fun x8 M8 => gX7_readTest_59 M8 s (lxI (nx t tx a)) x8) else gX7_readTest_59 N s (lxI (nx t tx a)) (-1 : Int32)) = gX7_readTest_59 N s (lxI (nx t tx a)) (sxI (nx t tx (a + 1))) := by
      rcases nx_c ht (a + 1) with ⟨e1, e2⟩ | ⟨b, hb, e1, e2⟩
      · rw [if_neg e2, e1, lxI_m.2]
      · rw [if_pos e2, isS_n (by decide), ck_t, e1, (b_8 b hb).2, p_ix (by decide) (by decide) hb, bd_s, ix_6 b hb]
    rw [s2]
    unfold gX7_readTest_59
    rcases sxI_c (nx t tx (a + 1)) with ⟨g1, g2, g3⟩ | ⟨g1, g2, g3, g4⟩
    · rw [if_neg g3, if_pos g1]
      exact ⟨N, rfl, by show CP M0 s t tx N (a + 1) (ss ++ []) bv; rw [List.append_nil]; exact n2⟩
    · have hga := six_lt g1
      obtain ⟨P, p1, p2⟩ := c_goTo e n2 hga
      have m1P := (CE_M e p2.1).1
      obtain ⟨Q, q1, q2⟩ := c_num e p2
      have m1Q := (CE_M e q2.1).1
      obtain ⟨k1, k2, k3, k4⟩ := pNum_in (tx := tx) ht (show a + 1 + 1 ≤ t by omega)
      rw [if_pos g4, if_neg g1, m1N, ck_t, p1, bd_s, m1P, ck_t, q1, bd_s]
      by_cases m : (pNum t tx (a + 1 + 1)).1 = true
      · have := k4 m
        obtain ⟨R, r1, r2⟩ := c_add e q2 (by omega) (x := 0) (y := ((lxI (nx t tx a) <<< ((9 : Int32) &&& 31)) ||| (sxI (nx t tx (a + 1)) <<< ((7 : Int32) &&& 31))) ||| nI (pNum t tx (a + 1 + 1)).2.2) (c := lix (nx t tx a) * 512 + six (nx t tx (a + 1)) * 128 + (pNum t tx (a + 1 + 1)).2.2) (by rw [l3, g3]; exact cv_t _ l2 _ g2 _ (by omega))
        refine ⟨R, ?_, ?_⟩
        · rw [if_pos m, if_neg (m1_ne (by omega)), m1Q, ck_t, r1, bd_s]
          show some ((1 : Int32), R) = some (b2 (if (pNum t tx (a + 1 + 1)).1 = true then (true, (pNum t tx (a + 1 + 1)).2.1, [3 + 300 * lix (nx t tx a) + 100 * six (nx t tx (a + 1)) + (pNum t tx (a + 1 + 1)).2.2]) else (false, (pNum t tx (a + 1 + 1)).2.1, [])).1, R)
          rw [if_pos m]
          rfl
        · show CP M0 s t tx R (if (pNum t tx (a + 1 + 1)).1 = true then (true, (pNum t tx (a + 1 + 1)).2.1, [3 + 300 * lix (nx t tx a) + 100 * six (nx t tx (a + 1)) + (pNum t tx (a + 1 + 1)).2.2]) else (false, (pNum t tx (a + 1 + 1)).2.1, [])).2.1 (ss ++ (if (pNum t tx (a + 1 + 1)).1 = true then (true, (pNum t tx (a + 1 + 1)).2.1, [3 + 300 * lix (nx t tx a) + 100 * six (nx t tx (a + 1)) + (pNum t tx (a + 1 + 1)).2.2]) else (false, (pNum t tx (a + 1 + 1)).2.1, [])).2.2.map cv) bv
          rw [if_pos m]
          show CP M0 s t tx R (pNum t tx (a + 1 + 1)).2.1 (ss ++ [cv (3 + 300 * lix (nx t tx a) + 100 * six (nx t tx (a + 1)) + (pNum t tx (a + 1 + 1)).2.2)]) bv
          rw [cv_c l2 g2 (by omega)]
          exact r2
      · refine ⟨Q, ?_, ?_⟩
        · rw [if_neg m, if_pos rfl]
          show some ((0 : Int32), Q) = some (b2 (if (pNum t tx (a + 1 + 1)).1 = true then (true, (pNum t tx (a + 1 + 1)).2.1, [3 + 300 * lix (nx t tx a) + 100 * six (nx t tx (a + 1)) + (pNum t tx (a + 1 + 1)).2.2]) else (false, (pNum t tx (a + 1 + 1)).2.1, [])).1, Q)
          rw [if_neg m]
          rfl
        · show CP M0 s t tx Q (if (pNum t tx (a + 1 + 1)).1 = true then (true, (pNum t tx (a + 1 + 1)).2.1, [3 + 300 * lix (nx t tx a) + 100 * six (nx t tx (a + 1)) + (pNum t tx (a + 1 + 1)).2.2]) else (false, (pNum t tx (a + 1 + 1)).2.1, [])).2.1 (ss ++ (if (pNum t tx (a + 1 + 1)).1 = true then (true, (pNum t tx (a + 1 + 1)).2.1, [3 + 300 * lix (nx t tx a) + 100 * six (nx t tx (a + 1)) + (pNum t tx (a + 1 + 1)).2.2]) else (false, (pNum t tx (a + 1 + 1)).2.1, [])).2.2.map cv) bv
          rw [if_neg m]
          show CP M0 s t tx Q (pNum t tx (a + 1 + 1)).2.1 (ss ++ []) bv
          rw [List.append_nil]
          exact q2
end CREAD
