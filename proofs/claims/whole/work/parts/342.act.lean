/-! ===== acts ===== -/
def aBows (i v : Int32) (k : Nat) (x : Int32) : Int32 × List Int32 := if k = 2 ∨ k = 5 then (x * 3 + i, [30, 10]) else if k = 4 then (-(x + i), [50, 10]) else if k = 6 then ((x + i) ^^^ v, [71, 10]) else (x + i, [10])
def aW0 (i v : Int32) (k : Nat) (x : Int32) : Int32 × List Int32 := ((aBows i v k x).1 - v, 11 :: (aBows i v k x).2)
def aW1 (i v : Int32) (k : Nat) (x : Int32) : Int32 × List Int32 := ((aW0 i v k x).1 ^^^ 6, 20 :: (aW0 i v k x).2)
def aWalks (i v : Int32) (k : Nat) (x : Int32) : Int32 × List Int32 := if k = 1 then aW1 i v k x else if k = 4 then ((aW1 i v k (x + 1)).1, 51 :: (aW1 i v k (x + 1)).2) else if k = 6 then ((aW0 i v k x).1 + (2 + i), 70 :: ((aW0 i v k x).2 ++ [10])) else aW0 i v k x
def aT0 (i v : Int32) (k : Nat) (x : Int32) : Int32 × List Int32 := ((aWalks i v k x).1 * 2, 12 :: (aWalks i v k x).2)
def aTells (i v : Int32) (k : Nat) (x : Int32) : Int32 × List Int32 := if k = 3 ∨ k = 6 then ((aT0 i v k x).1 + (aWalks i v k 1).1, 40 :: ((aT0 i v k x).2 ++ (aWalks i v k 1).2)) else if k = 5 then ((aT0 i v k (x - i)).1, 60 :: (aT0 i v k (x - i)).2) else aT0 i v k x
theorem kk7 {k : Nat} (h : k ≤ 6) : k = 0 ∨ k = 1 ∨ k = 2 ∨ k = 3 ∨ k = 4 ∨ k = 5 ∨ k = 6 := by omega
theorem aAct_len {i v : Int32} {k : Nat} {x : Int32} (h : k ≤ 6) : (aBows i v k x).2.length ≤ 20 ∧ (aWalks i v k x).2.length ≤ 20 ∧ (aTells i v k x).2.length ≤ 20 := by
  rcases kk7 h with rfl | rfl | rfl | rfl | rfl | rfl | rfl <;> exact ⟨Nat.le_of_ble_eq_true rfl, Nat.le_of_ble_eq_true rfl, Nat.le_of_ble_eq_true rfl⟩
/-- a body's run: its answer, the bodies that it ran -/
def Cx (D : Mem → List Int32 → Prop) (f : Mem → Option (Int32 × Mem)) (r : Int32 × List Int32) : Prop := ∀ M tr, D M tr → tr.length + r.2.length ≤ 20 → ∃ N, f M = some (r.1, N) ∧ D N (tr ++ r.2)
def Bg (D : Mem → List Int32 → Prop) (bg : Mem → Int32 → Option (Unit × Mem)) : Prop := ∀ M tr b, D M tr → tr.length < 20 → ∃ N, bg M b = some ((), N) ∧ D N (tr ++ [b])
theorem Cx_b {D : Mem → List Int32 → Prop} {bg : Mem → Int32 → Option (Unit × Mem)} (hb : Bg D bg) {b y : Int32} {f : Mem → Option (Int32 × Mem)} (hf : ∀ M N t1 t2, D M t1 → D N t2 → bg M b = some ((), N) → f M = some (y, N)) : Cx D f (y, [b]) := by
  intro M tr d hl
  have hl' : tr.length + 1 ≤ 20 := hl
  obtain ⟨N, n1, n2⟩ := hb M tr b d (by omega)
  exact ⟨N, hf M N _ _ d n2 n1, n2⟩
theorem Cx_p {D : Mem → List Int32 → Prop} {bg : Mem → Int32 → Option (Unit × Mem)} (hb : Bg D bg) {b y : Int32} {g f : Mem → Option (Int32 × Mem)} {r : Int32 × List Int32} (hg : Cx D g r) (hf : ∀ M N N2 t1 t2 t3, D M t1 → D N t2 → D N2 t3 → bg M b = some ((), N) → g N = some (r.1, N2) → f M = some (y, N2)) : Cx D f (y, b :: r.2) := by
  intro M tr d hl
  have hl' : tr.length + (r.2.length + 1) ≤ 20 := hl
  obtain ⟨N, n1, n2⟩ := hb M tr b d (by omega)
  obtain ⟨N2, m1, m2⟩ := hg N _ n2 (by rw [List.length_append]; show tr.length + 1 + r.2.length ≤ 20; omega)
  rw [List.append_assoc] at m2
  exact ⟨N2, hf M N N2 _ _ _ d n2 m2 n1 m1, m2⟩
theorem Cx_p2 {D : Mem → List Int32 → Prop} {bg : Mem → Int32 → Option (Unit × Mem)} (hb : Bg D bg) {b y : Int32} {g g2 f : Mem → Option (Int32 × Mem)} {r r2 : Int32 × List Int32} (hg : Cx D g r) (hg2 : Cx D g2 r2) (hf : ∀ M N N2 N3 t1 t2 t3 t4, D M t1 → D N t2 → D N2 t3 → D N3 t4 → bg M b = some ((), N) → g N = some (r.1, N2) → g2 N2 = some (r2.1, N3) → f M = some (y, N3)) : Cx D f (y, b :: (r.2 ++ r2.2)) := by
  intro M tr d hl
  have hl' : tr.length + ((r.2 ++ r2.2).length + 1) ≤ 20 := hl
  rw [List.length_append] at hl'
  obtain ⟨N, n1, n2⟩ := hb M tr b d (by omega)
  obtain ⟨N2, m1, m2⟩ := hg N _ n2 (by rw [List.length_append]; show tr.length + 1 + r.2.length ≤ 20; omega)
  obtain ⟨N3, q1, q2⟩ := hg2 N2 _ m2 (by rw [List.length_append, List.length_append]; show tr.length + 1 + r.2.length + r2.2.length ≤ 20; omega)
  rw [List.append_assoc, List.append_assoc] at q2
  exact ⟨N3, hf M N N2 N3 _ _ _ _ d n2 m2 q2 n1 m1 q1, q2⟩
theorem Cx_e {D : Mem → List Int32 → Prop} {f g : Mem → Option (Int32 × Mem)} {r : Int32 × List Int32} (hg : Cx D g r) (hf : ∀ M t, D M t → f M = g M) : Cx D f r := by
  intro M tr d hl
  rw [hf M tr d]
  exact hg M tr d hl
/-- the same answer in other words -/
theorem Cx_q {D : Mem → List Int32 → Prop} {f g : Mem → Option (Int32 × Mem)} {r : Int32 × List Int32} (hg : Cx D g r) (hf : ∀ M N t t2, D M t → D N t2 → g M = some (r.1, N) → f M = some (r.1, N)) : Cx D f r := by
  intro M tr d hl
  obtain ⟨N, n1, n2⟩ := hg M tr d hl
  exact ⟨N, hf M N _ _ d n2 n1, n2⟩
/-! ===== class ===== -/
def CD (M0 M : Mem) (tr : List Int32) : Prop := M.1 = M0.1 ∧ M.2.2 = M0.2.2 ∧ (∀ b, b ≠ 16 → b ≠ 17 → M.2.1 b = M0.2.1 b) ∧ mI M 16 0 = mI M0 16 0 ∧ mI M 16 1 = mI M0 16 1 ∧ mI M 16 2 = nI tr.length ∧ ∀ i, i < tr.length → tr[i]? = some (mI M 17 i)
theorem CD_b {M0 : Mem} (hS : Sh M0) : Bg (CD M0) (fun M b => fX1_begin M 16 b) := by
  intro M tr b d hl
  obtain ⟨d1, d2, d3, d4, d5, d6, d7⟩ := d
  have hSM := Sh_1 d1 hS
  refine ⟨stI (stI M 17 tr.length b) 16 2 (nI (tr.length + 1)), ?_, d1, d2, fun c c1 c2 => ?_, ?_, ?_, ?_, fun i hi => ?_⟩
  · have u : mI (stI M 17 tr.length b) 16 2 = nI tr.length := by rw [mI_stI, if_neg (by omega)]; exact d6
    simp only [fX1_begin, k_16 hSM, ck_t, d6]
    rw [if_neg (by rw [show (20 : Int32) = nI 20 from rfl, leL (by omega) (by omega)]; omega)]
    simp only [r_16_3 hSM, k_17 hSM, g_17 hSM, rb_s, ck_t, inb_n hl (by decide : 20 < 1000000), tn (show tr.length < 1000000 by omega), gX1_begin_19, isK_stI, k_16 hSM, u, nI_1]
  · rw [row_st c1, row_st c2]
    exact d3 c c1 c2
  · rw [mI_stI, if_neg (by omega), mI_stI, if_neg (by omega)]
    exact d4
  · rw [mI_stI, if_neg (by omega), mI_stI, if_neg (by omega)]
    exact d5
  · rw [mI_stI, if_pos ⟨rfl, rfl⟩, List.length_append]
    rfl
  · rw [List.length_append] at hi
    have hi' : i < tr.length + 1 := hi
    rw [mI_stI, if_neg (by omega), mI_stI]
    by_cases e : i = tr.length
    · subst e
      rw [if_pos ⟨rfl, rfl⟩]
      exact List.getElem?_concat_length
    · rw [if_neg (by omega), List.getElem?_append_left (by omega)]
      exact d7 i (by omega)
theorem CD_W {M0 M : Mem} {t : List Int32} {k : Nat} (hS : Sh M0) (hk : k ≤ 6) (d : CD M0 M t) : isW M (22 + k) = true ∧ 22 + k < mN M ∧ mK M (22 + k) = (if k = 0 then 10 else if k = 1 then 9 else if k = 2 then 6 else if k = 3 then 4 else if k = 4 then 2 else if k = 5 then 0 else 8) := by
  have hSM := Sh_1 d.1 hS
  obtain ⟨-, -, k2, ⟨-, k3⟩, ⟨-, k4⟩, ⟨-, k5⟩, ⟨-, k6⟩, ⟨-, k7⟩, ⟨-, k8⟩, ⟨-, k9⟩⟩ := Kd_s hSM
  have hn : 22 + k < mN M := by omega
  rcases kk7 hk with rfl | rfl | rfl | rfl | rfl | rfl | rfl
  · exact ⟨by simp [isW, k3]; omega, hn, by simp [k3]⟩
  · exact ⟨by simp [isW, k4]; omega, hn, by simp [k4]⟩
  · exact ⟨by simp [isW, k5]; omega, hn, by simp [k5]⟩
  · exact ⟨by simp [isW, k6]; omega, hn, by simp [k6]⟩
  · exact ⟨by simp [isW, k7]; omega, hn, by simp [k7]⟩
  · exact ⟨by simp [isW, k8]; omega, hn, by simp [k8]⟩
  · exact ⟨by simp [isW, k9]; omega, hn, by simp [k9]⟩
section CACT
variable {M0 : Mem} {i v : Int32} (hS : Sh M0) (h0 : mI M0 16 0 = i) (h1 : mI M0 16 1 = v)
theorem c_b0 (hS : Sh M0) (h0 : mI M0 16 0 = i) (a : Nat) (x : Int32) : Cx (CD M0) (fun M => fX10_bows M a 16 x) (x + i, [10]) := by
  refine Cx_b (CD_b hS) (fun M N t1 t2 d1 d2 e => ?_)
  have e' : fX1_begin M 16 10 = some ((), N) := e
  simp only [fX10_bows, k_16 (Sh_1 d1.1 hS), ck_t, e', bd_s, k_16 (Sh_1 d2.1 hS), d2.2.2.2.1, h0]
theorem c_bows (hS : Sh M0) (h0 : mI M0 16 0 = i) (h1 : mI M0 16 1 = v) {k : Nat} (hk : k ≤ 6) (x : Int32) : Cx (CD M0) (fun M => vt10_bows M (22 + k) 16 x) (aBows i v k x) := by
  have six : Cx (CD M0) (fun M => fX6_bows M (22 + k) 16 x) (x * 3 + i, [30, 10]) := by
    refine Cx_p (CD_b hS) (c_b0 hS h0 (22 + k) (x * 3)) (fun M N N2 t1 t2 t3 d1 d2 d3 e e2 => ?_)
    have e' : fX1_begin M 16 30 = some ((), N) := e
    have e2' : fX10_bows N (22 + k) 16 (x * 3) = some (x * 3 + i, N2) := e2
    simp only [fX6_bows, k_16 (Sh_1 d1.1 hS), ck_t, e', bd_s, e2', (CD_W hS hk d2).1]
  have two : Cx (CD M0) (fun M => fX2_bows M (22 + k) 16 x) (-(x + i), [50, 10]) := by
    refine Cx_p (CD_b hS) (c_b0 hS h0 (22 + k) x) (fun M N N2 t1 t2 t3 d1 d2 d3 e e2 => ?_)
    have e' : fX1_begin M 16 50 = some ((), N) := e
    have e2' : fX10_bows N (22 + k) 16 x = some (x + i, N2) := e2
    simp only [fX2_bows, k_16 (Sh_1 d1.1 hS), ck_t, e', bd_s, e2', (CD_W hS hk d2).1]
  have eight : Cx (CD M0) (fun M => fX8_bows M (22 + k) 16 x) ((x + i) ^^^ v, [71, 10]) := by
    refine Cx_p (CD_b hS) (c_b0 hS h0 (22 + k) x) (fun M N N2 t1 t2 t3 d1 d2 d3 e e2 => ?_)
    have e' : fX1_begin M 16 71 = some ((), N) := e
    have e2' : fX10_bows N (22 + k) 16 x = some (x + i, N2) := e2
    simp only [fX8_bows, k_16 (Sh_1 d1.1 hS), ck_t, e', bd_s, e2', (CD_W hS hk d2).1, k_16 (Sh_1 d3.1 hS), d3.2.2.2.2.1, h1]
  have vt : ∀ M t, CD M0 M t → vt10_bows M (22 + k) 16 x = (if k = 2 ∨ k = 5 then fX6_bows M (22 + k) 16 x else if k = 4 then fX2_bows M (22 + k) 16 x else if k = 6 then fX8_bows M (22 + k) 16 x else fX10_bows M (22 + k) 16 x) := by
    intro M t d
    obtain ⟨-, w2, w3⟩ := CD_W hS hk d
    unfold vt10_bows
    rw [decide_eq_true w2, ck_t, w3]
    rcases kk7 hk with rfl | rfl | rfl | rfl | rfl | rfl | rfl <;> rfl
  refine Cx_e (g := fun M => if k = 2 ∨ k = 5 then fX6_bows M (22 + k) 16 x else if k = 4 then fX2_bows M (22 + k) 16 x else if k = 6 then fX8_bows M (22 + k) 16 x else fX10_bows M (22 + k) 16 x) ?_ vt
  unfold aBows
  by_cases g1 : k = 2 ∨ k = 5
  · simp only [if_pos g1]
    exact six
  · by_cases g2 : k = 4
    · simp only [if_neg g1, if_pos g2]
      exact two
    · by_cases g3 : k = 6
      · simp only [if_neg g1, if_neg g2, if_pos g3]
        exact eight
      · simp only [if_neg g1, if_neg g2, if_neg g3]
        exact c_b0 hS h0 (22 + k) x
theorem c_w0 (hS : Sh M0) (h0 : mI M0 16 0 = i) (h1 : mI M0 16 1 = v) {k : Nat} (hk : k ≤ 6) (x : Int32) : Cx (CD M0) (fun M => fX10_walks M (22 + k) 16 x) (aW0 i v k x) := by
  refine Cx_p (CD_b hS) (c_bows hS h0 h1 hk x) (fun M N N2 t1 t2 t3 d1 d2 d3 e e2 => ?_)
  have e' : fX1_begin M 16 11 = some ((), N) := e
  have e2' : vt10_bows N (22 + k) 16 x = _ := e2
  simp only [fX10_walks, k_16 (Sh_1 d1.1 hS), ck_t, e', bd_s, e2', k_16 (Sh_1 d3.1 hS), d3.2.2.2.2.1, h1]
theorem c_w1 (hS : Sh M0) (h0 : mI M0 16 0 = i) (h1 : mI M0 16 1 = v) {k : Nat} (hk : k ≤ 6) (x : Int32) : Cx (CD M0) (fun M => fX9_walks M (22 + k) 16 x) (aW1 i v k x) := by
  refine Cx_p (CD_b hS) (c_w0 hS h0 h1 hk x) (fun M N N2 t1 t2 t3 d1 d2 d3 e e2 => ?_)
  have e' : fX1_begin M 16 20 = some ((), N) := e
  have e2' : fX10_walks N (22 + k) 16 x = _ := e2
  simp only [fX9_walks, k_16 (Sh_1 d1.1 hS), ck_t, e', bd_s, e2', (CD_W hS hk d2).1]
theorem c_w8 (hS : Sh M0) (h0 : mI M0 16 0 = i) (h1 : mI M0 16 1 = v) {k : Nat} (hk : k ≤ 6) (x : Int32) : Cx (CD M0) (fun M => fX8_walks M (22 + k) 16 x) ((aW0 i v k x).1 + (2 + i), 70 :: ((aW0 i v k x).2 ++ [10])) := by
  refine Cx_p2 (CD_b hS) (r2 := (2 + i, [10])) (c_w0 hS h0 h1 hk x) (c_b0 hS h0 (22 + k) 2) (fun M N N2 N3 t1 t2 t3 t4 d1 d2 d3 d4 e e2 e3 => ?_)
  have e' : fX1_begin M 16 70 = some ((), N) := e
  have e2' : fX10_walks N (22 + k) 16 x = _ := e2
  have e3' : fX10_bows N2 (22 + k) 16 2 = _ := e3
  simp only [fX8_walks, k_16 (Sh_1 d1.1 hS), ck_t, e', bd_s, e2', (CD_W hS hk d2).1, e3', (CD_W hS hk d3).1]
theorem c_walks (hS : Sh M0) (h0 : mI M0 16 0 = i) (h1 : mI M0 16 1 = v) {k : Nat} (hk : k ≤ 6) (x : Int32) : Cx (CD M0) (fun M => vt10_walks M (22 + k) 16 x) (aWalks i v k x) := by
  have two : Cx (CD M0) (fun M => fX2_walks M (22 + k) 16 x) ((aW1 i v k (x + 1)).1, 51 :: (aW1 i v k (x + 1)).2) := by
    refine Cx_p (CD_b hS) (c_w1 hS h0 h1 hk (x + 1)) (fun M N N2 t1 t2 t3 d1 d2 d3 e e2 => ?_)
    have e' : fX1_begin M 16 51 = some ((), N) := e
    have e2' : fX9_walks N (22 + k) 16 (x + 1) = _ := e2
    simp only [fX2_walks, k_16 (Sh_1 d1.1 hS), ck_t, e', bd_s, e2', (CD_W hS hk d2).1]
  have vt : ∀ M t, CD M0 M t → vt10_walks M (22 + k) 16 x = (if k = 1 then fX9_walks M (22 + k) 16 x else if k = 4 then fX2_walks M (22 + k) 16 x else if k = 6 then fX8_walks M (22 + k) 16 x else fX10_walks M (22 + k) 16 x) := by
    intro M t d
    obtain ⟨-, w2, w3⟩ := CD_W hS hk d
    unfold vt10_walks
    rw [decide_eq_true w2, ck_t, w3]
    rcases kk7 hk with rfl | rfl | rfl | rfl | rfl | rfl | rfl <;> rfl
  refine Cx_e (g := fun M => if k = 1 then fX9_walks M (22 + k) 16 x else if k = 4 then fX2_walks M (22 + k) 16 x else if k = 6 then fX8_walks M (22 + k) 16 x else fX10_walks M (22 + k) 16 x) ?_ vt
  unfold aWalks
  by_cases g1 : k = 1
  · simp only [if_pos g1]
    exact c_w1 hS h0 h1 hk x
  · by_cases g2 : k = 4
    · simp only [if_neg g1, if_pos g2]
      exact two
    · by_cases g3 : k = 6
      · simp only [if_neg g1, if_neg g2, if_pos g3]
        exact c_w8 hS h0 h1 hk x
      · simp only [if_neg g1, if_neg g2, if_neg g3]
        exact c_w0 hS h0 h1 hk x
theorem c_t0 (hS : Sh M0) (h0 : mI M0 16 0 = i) (h1 : mI M0 16 1 = v) {k : Nat} (hk : k ≤ 6) (x : Int32) : Cx (CD M0) (fun M => fX10_tells M (22 + k) 16 x) (aT0 i v k x) := by
  refine Cx_p (CD_b hS) (c_walks hS h0 h1 hk x) (fun M N N2 t1 t2 t3 d1 d2 d3 e e2 => ?_)
  have e' : fX1_begin M 16 12 = some ((), N) := e
  have e2' : vt10_walks N (22 + k) 16 x = _ := e2
  simp only [fX10_tells, k_16 (Sh_1 d1.1 hS), ck_t, e', bd_s, e2']
theorem c_tells (hS : Sh M0) (h0 : mI M0 16 0 = i) (h1 : mI M0 16 1 = v) {k : Nat} (hk : k ≤ 6) (x : Int32) : Cx (CD M0) (fun M => vt10_tells M (22 + k) 16 x) (aTells i v k x) := by
  have zero : Cx (CD M0) (fun M => fX0_tells M (22 + k) 16 x) ((aT0 i v k (x - i)).1, 60 :: (aT0 i v k (x - i)).2) := by
    refine Cx_p (CD_b hS) (c_t0 hS h0 h1 hk (x - i)) (fun M N N2 t1 t2 t3 d1 d2 d3 e e2 => ?_)
    have e' : fX1_begin M 16 60 = some ((), N) := e
    have e2' : fX10_tells N (22 + k) 16 (x - i) = _ := e2
    simp only [fX0_tells, k_16 (Sh_1 d1.1 hS), ck_t, e', bd_s, k_16 (Sh_1 d2.1 hS), d2.2.2.2.1, h0, e2', (CD_W hS hk d2).1]
  have four : (k = 3 ∨ k = 6) → Cx (CD M0) (fun M => fX4_tells M (22 + k) 16 x) ((aT0 i v k x).1 + (aWalks i v k 1).1, 40 :: ((aT0 i v k x).2 ++ (aWalks i v k 1).2)) := by
    intro hk36
    have vt : ∀ M t, CD M0 M t → vt4_walks M (22 + k) 16 1 = vt10_walks M (22 + k) 16 1 := by
      intro M t d
      obtain ⟨-, w2, w3⟩ := CD_W hS hk d
      unfold vt4_walks vt10_walks
      rw [decide_eq_true w2, ck_t, ck_t, w3]
      rcases hk36 with rfl | rfl <;> rfl
    refine Cx_p2 (CD_b hS) (c_t0 hS h0 h1 hk x) (c_walks hS h0 h1 hk 1) (fun M N N2 N3 t1 t2 t3 t4 d1 d2 d3 d4 e e2 e3 => ?_)
    have e' : fX1_begin M 16 40 = some ((), N) := e
    have e2' : fX10_tells N (22 + k) 16 x = _ := e2
    have e3' : vt10_walks N2 (22 + k) 16 1 = _ := e3
    simp only [fX4_tells, k_16 (Sh_1 d1.1 hS), ck_t, e', bd_s, e2', (CD_W hS hk d2).1, vt N2 _ d3, e3']
  have vt : ∀ M t, CD M0 M t → vt10_tells M (22 + k) 16 x = (if k = 3 ∨ k = 6 then fX4_tells M (22 + k) 16 x else if k = 5 then fX0_tells M (22 + k) 16 x else fX10_tells M (22 + k) 16 x) := by
    intro M t d
    obtain ⟨-, w2, w3⟩ := CD_W hS hk d
    unfold vt10_tells
    rw [decide_eq_true w2, ck_t, w3]
    rcases kk7 hk with rfl | rfl | rfl | rfl | rfl | rfl | rfl <;> rfl
  refine Cx_e (g := fun M => if k = 3 ∨ k = 6 then fX4_tells M (22 + k) 16 x else if k = 5 then fX0_tells M (22 + k) 16 x else fX10_tells M (22 + k) 16 x) ?_ vt
  unfold aTells
  by_cases g1 : k = 3 ∨ k = 6
  · simp only [if_pos g1]
    exact four g1
  · by_cases g2 : k = 5
    · simp only [if_neg g1, if_pos g2]
      exact zero
    · simp only [if_neg g1, if_neg g2]
      exact c_t0 hS h0 h1 hk x
end CACT
/-! ===== model ===== -/
def MD (M0 M : Mem) (tr : List Int32) : Prop := M.1 = M0.1 ∧ M.2.2 = M0.2.2 ∧ (∀ b, b ≠ 55 → b ≠ 77 → M.2.1 b = M0.2.1 b) ∧ (∀ f, f ≠ 34 → mI M 55 f = mI M0 55 f) ∧ mI M 55 34 = nI tr.length ∧ ∀ i, i < tr.length → tr[i]? = some (mI M 77 i)
theorem MD_b {M0 : Mem} (hS : Sh M0) : Bg (MD M0) (fun M b => fX12_ran M 55 b) := by
  intro M tr b d hl
  obtain ⟨d1, d2, d3, d4, d6, d7⟩ := d
  have hSM := Sh_1 d1 hS
  refine ⟨stI (stI M 77 tr.length b) 55 34 (nI (tr.length + 1)), ?_, d1, d2, fun c c1 c2 => ?_, fun f hf => ?_, ?_, fun i hi => ?_⟩
  · have u : mI (stI M 77 tr.length b) 55 34 = nI tr.length := by rw [mI_stI, if_neg (by omega)]; exact d6
    simp only [fX12_ran, k_55 hSM, ck_t, d6]
    rw [if_neg (by rw [show (20 : Int32) = nI 20 from rfl, leL (by omega) (by omega)]; omega)]
    simp only [r_55_35 hSM, k_77 hSM, g_77 hSM, rb_s, ck_t, inb_n hl (by decide : 20 < 1000000), tn (show tr.length < 1000000 by omega), gX12_ran_19, isK_stI, k_55 hSM, u, nI_1]
  · rw [row_st c1, row_st c2]
    exact d3 c c1 c2
  · rw [mI_stI, if_neg (by omega), mI_stI, if_neg (by omega)]
    exact d4 f hf
  · rw [mI_stI, if_pos ⟨rfl, rfl⟩, List.length_append]
    rfl
  · rw [List.length_append] at hi
    have hi' : i < tr.length + 1 := hi
    rw [mI_stI, if_neg (by omega), mI_stI]
    by_cases e : i = tr.length
    · subst e
      rw [if_pos ⟨rfl, rfl⟩]
      exact List.getElem?_concat_length
    · rw [if_neg (by omega), List.getElem?_append_left (by omega)]
      exact d7 i (by omega)
theorem MD_k {M0 M : Mem} {t : List Int32} {p k : Nat} (e : mI M0 57 p = nI k) (d : MD M0 M t) : mI M 57 p = nI k := (congrFun (d.2.2.1 57 (by decide) (by decide)) p).trans e
theorem MD_v {M0 M : Mem} {t : List Int32} {p : Nat} {v : Int32} (e : mI M0 58 p = v) (d : MD M0 M t) : mI M 58 p = v := (congrFun (d.2.2.1 58 (by decide) (by decide)) p).trans e
/-- one step up, where a kind has no body -/
theorem m_up {M0 : Mem} {F : Mem → Nat → Int32 → Int32 → Int32 → Option (Int32 × Mem)} {p : Int32} {y : Int32} {r : Int32 × List Int32} {x : Int32} (hS : Sh M0) (hF : Cx (MD M0) (fun M => F M 55 p y x) r) : Cx (MD M0) (fun M => bd (some (y, M)) fun x4 M4 => ck (isK M4 55 12) <| bd (F M4 55 p x4 x) fun x6 M6 => some (x6, M6)) r := by
  refine Cx_q hF (fun M N t t2 d d2 e => ?_)
  have e' : F M 55 p y x = some (r.1, N) := e
  simp only [bd_s, k_55 (Sh_1 d.1 hS), ck_t, e']
theorem m_b0 {M0 : Mem} (hS : Sh M0) (p : Int32) (n : Nat) (x : Int32) : Cx (MD M0) (fun M => rgC (n + 1) 0 M 55 p 0 x) (x + p, [10]) := by
  refine Cx_b (MD_b hS) (fun M N t1 t2 d1 d2 e => ?_)
  have e' : fX12_ran M 55 10 = some ((), N) := e
  show (ck (isK M 55 12) <| bd (fX12_ran M 55 (10 : Int32)) fun x3 M3 => some ((x + p), M3)) = _
  rw [k_55 (Sh_1 d1.1 hS), ck_t, e', bd_s]
theorem m_b1 {M0 : Mem} (hS : Sh M0) (p : Int32) (n : Nat) (x : Int32) : Cx (MD M0) (fun M => rgC (n + 2) 0 M 55 p 1 x) (x + p, [10]) := m_up (y := 0) (F := rgC (n + 1) 0) hS (m_b0 hS p n x)
theorem m_b3 {M0 : Mem} (hS : Sh M0) (p : Int32) (n : Nat) (x : Int32) : Cx (MD M0) (fun M => rgC (n + 2) 0 M 55 p 3 x) (x + p, [10]) := m_up (y := 0) (F := rgC (n + 1) 0) hS (m_b0 hS p n x)
theorem m_b2 {M0 : Mem} (hS : Sh M0) (p : Int32) (n : Nat) (x : Int32) : Cx (MD M0) (fun M => rgC (n + 2) 0 M 55 p 2 x) (x * 3 + p, [30, 10]) := by
  refine Cx_p (MD_b hS) (m_b0 hS p n (x * 3)) (fun M N N2 t1 t2 t3 d1 d2 d3 e e2 => ?_)
  have e' : fX12_ran M 55 30 = some ((), N) := e
  have e2' : rgC (n + 1) 0 N 55 p 0 (x * 3) = _ := e2
  show (ck (isK M 55 12) <| bd (fX12_ran M 55 (30 : Int32)) fun x8 M8 => ck (isK M8 55 12) <| bd (rgC (n + 1) 0 M8 55 p (0 : Int32) (x * (3 : Int32))) fun x10 M10 => some (x10, M10)) = _
  rw [k_55 (Sh_1 d1.1 hS), ck_t, e', bd_s, k_55 (Sh_1 d2.1 hS), ck_t, e2', bd_s]
theorem m_bows {M0 : Mem} {p k : Nat} {v : Int32} (hS : Sh M0) (hp : p < 6) (hk : k ≤ 6) (ev : mI M0 58 p = v) (x : Int32) : Cx (MD M0) (fun M => fX12_bows M 55 (nI p) (nI k) x) (aBows (nI p) v k x) := by
  rcases kk7 hk with rfl | rfl | rfl | rfl | rfl | rfl | rfl
  · exact m_b0 hS (nI p) 23 x
  · exact m_b1 hS (nI p) 22 x
  · exact m_b2 hS (nI p) 22 x
  · exact m_b3 hS (nI p) 22 x
  · refine Cx_p (MD_b hS) (m_b1 hS (nI p) 21 x) (fun M N N2 t1 t2 t3 d1 d2 d3 e e2 => ?_)
    have e' : fX12_ran M 55 50 = some ((), N) := e
    have e2' : rgC 23 0 N 55 (nI p) 1 x = _ := e2
    show (ck (isK M 55 12) <| bd (fX12_ran M 55 (50 : Int32)) fun x15 M15 => ck (isK M15 55 12) <| bd (rgC 23 0 M15 55 (nI p) (1 : Int32) x) fun x17 M17 => some ((-x17), M17)) = _
    rw [k_55 (Sh_1 d1.1 hS), ck_t, e', bd_s, k_55 (Sh_1 d2.1 hS), ck_t, e2', bd_s]
  · exact m_up (y := 2) (F := rgC 23 0) hS (m_b2 hS (nI p) 21 x)
  · refine Cx_p (MD_b hS) (m_b3 hS (nI p) 21 x) (fun M N N2 t1 t2 t3 d1 d2 d3 e e2 => ?_)
    have e' : fX12_ran M 55 71 = some ((), N) := e
    have e2' : rgC 23 0 N 55 (nI p) 3 x = _ := e2
    show (ck (isK M 55 12) <| bd (fX12_ran M 55 (71 : Int32)) fun x22 M22 => ck (isK M22 55 12) <| bd (rgC 23 0 M22 55 (nI p) (3 : Int32) x) fun x24 M24 => ck (isK M24 55 12) <| rb (mR M24 55 3) fun b26 => ck (isK M24 b26 14) <| ck (inb (nI p) (mG M24 b26)) <| some ((x24 ^^^ (mI M24 b26 (nI p).toNatClampNeg)), M24)) = _
    have hS3 := Sh_1 d3.1 hS
    rw [k_55 (Sh_1 d1.1 hS), ck_t, e', bd_s, k_55 (Sh_1 d2.1 hS), ck_t, e2', bd_s, k_55 hS3, ck_t, r_55_3 hS3, rb_s, k_58 hS3, ck_t, g_58 hS3, inb_n hp (by decide : 6 < 1000000), ck_t, tn (show p < 1000000 by omega), MD_v ev d3]
theorem m_w0 {M0 : Mem} {p k : Nat} {v : Int32} (hS : Sh M0) (hp : p < 6) (hk : k ≤ 6) (ek : mI M0 57 p = nI k) (ev : mI M0 58 p = v) (n : Nat) (x : Int32) : Cx (MD M0) (fun M => rgD (n + 1) 0 M 55 (nI p) 0 x) (aW0 (nI p) v k x) := by
  refine Cx_p (MD_b hS) (m_bows hS hp hk ev x) (fun M N N2 t1 t2 t3 d1 d2 d3 e e2 => ?_)
  have e' : fX12_ran M 55 11 = some ((), N) := e
  have e2' : fX12_bows N 55 (nI p) (nI k) x = _ := e2
  have hS2 := Sh_1 d2.1 hS
  have hS3 := Sh_1 d3.1 hS
  show (ck (isK M 55 12) <| bd (fX12_ran M 55 (11 : Int32)) fun x3 M3 => ck (isK M3 55 12) <| rb (mR M3 55 2) fun b5 => ck (isK M3 b5 14) <| ck (inb (nI p) (mG M3 b5)) <| bd (fX12_bows M3 55 (nI p) (mI M3 b5 (nI p).toNatClampNeg) x) fun x8 M8 => ck (isK M8 55 12) <| rb (mR M8 55 3) fun b10 => ck (isK M8 b10 14) <| ck (inb (nI p) (mG M8 b10)) <| some ((x8 - (mI M8 b10 (nI p).toNatClampNeg)), M8)) = _
  rw [k_55 (Sh_1 d1.1 hS), ck_t, e', bd_s, k_55 hS2, ck_t, r_55_2 hS2, rb_s, k_57 hS2, ck_t, g_57 hS2, inb_n hp (by decide : 6 < 1000000), ck_t, tn (show p < 1000000 by omega), MD_k ek d2, e2', bd_s, k_55 hS3, ck_t, r_55_3 hS3, rb_s, k_58 hS3, ck_t, g_58 hS3, inb_n hp (by decide : 6 < 1000000), ck_t, MD_v ev d3]
theorem m_w1 {M0 : Mem} {p k : Nat} {v : Int32} (hS : Sh M0) (hp : p < 6) (hk : k ≤ 6) (ek : mI M0 57 p = nI k) (ev : mI M0 58 p = v) (n : Nat) (x : Int32) : Cx (MD M0) (fun M => rgD (n + 2) 0 M 55 (nI p) 1 x) (aW1 (nI p) v k x) := by
  refine Cx_p (MD_b hS) (m_w0 hS hp hk ek ev n x) (fun M N N2 t1 t2 t3 d1 d2 d3 e e2 => ?_)
  have e' : fX12_ran M 55 20 = some ((), N) := e
  have e2' : rgD (n + 1) 0 N 55 (nI p) 0 x = _ := e2
  show (ck (isK M 55 12) <| bd (fX12_ran M 55 (20 : Int32)) fun x14 M14 => ck (isK M14 55 12) <| bd (rgD (n + 1) 0 M14 55 (nI p) (0 : Int32) x) fun x16 M16 => some ((x16 ^^^ (6 : Int32)), M16)) = _
  rw [k_55 (Sh_1 d1.1 hS), ck_t, e', bd_s, k_55 (Sh_1 d2.1 hS), ck_t, e2', bd_s]
theorem m_walks {M0 : Mem} {p k : Nat} {v : Int32} (hS : Sh M0) (hp : p < 6) (hk : k ≤ 6) (ek : mI M0 57 p = nI k) (ev : mI M0 58 p = v) (x : Int32) : Cx (MD M0) (fun M => fX12_walks M 55 (nI p) (nI k) x) (aWalks (nI p) v k x) := by
  rcases kk7 hk with rfl | rfl | rfl | rfl | rfl | rfl | rfl
  · exact m_w0 hS hp hk ek ev 23 x
  · exact m_w1 hS hp hk ek ev 22 x
  · exact m_up (y := 0) (F := rgD 23 0) hS (m_w0 hS hp hk ek ev 22 x)
  · exact m_up (y := 0) (F := rgD 23 0) hS (m_w0 hS hp hk ek ev 22 x)
  · refine Cx_p (MD_b hS) (m_w1 hS hp hk ek ev 21 (x + 1)) (fun M N N2 t1 t2 t3 d1 d2 d3 e e2 => ?_)
    have e' : fX12_ran M 55 51 = some ((), N) := e
    have e2' : rgD 23 0 N 55 (nI p) 1 (x + 1) = _ := e2
    show (ck (isK M 55 12) <| bd (fX12_ran M 55 (51 : Int32)) fun x24 M24 => ck (isK M24 55 12) <| bd (rgD 23 0 M24 55 (nI p) (1 : Int32) (x + (1 : Int32))) fun x26 M26 => some (x26, M26)) = _
    rw [k_55 (Sh_1 d1.1 hS), ck_t, e', bd_s, k_55 (Sh_1 d2.1 hS), ck_t, e2', bd_s]
  · exact m_up (y := 2) (F := rgD 23 0) hS (m_up (y := 0) (F := rgD 22 0) hS (m_w0 hS hp hk ek ev 21 x))
  · refine Cx_p2 (MD_b hS) (r2 := (2 + nI p, [10])) (m_up (y := 0) (F := rgD 22 0) hS (m_w0 hS hp hk ek ev 21 x)) (m_b3 hS (nI p) 22 2) (fun M N N2 N3 t1 t2 t3 t4 d1 d2 d3 d4 e e2 e3 => ?_)
    have e' : fX12_ran M 55 70 = some ((), N) := e
    have e2' : rgD 23 0 N 55 (nI p) 3 x = _ := e2
    have e3' : fX12_bows N2 55 (nI p) 3 2 = _ := e3
    show (ck (isK M 55 12) <| bd (fX12_ran M 55 (70 : Int32)) fun x31 M31 => ck (isK M31 55 12) <| bd (rgD 23 0 M31 55 (nI p) (3 : Int32) x) fun x33 M33 => ck (isK M33 55 12) <| bd (fX12_bows M33 55 (nI p) (3 : Int32) (2 : Int32)) fun x35 M35 => some ((x33 + x35), M35)) = _
    rw [k_55 (Sh_1 d1.1 hS), ck_t, e', bd_s, k_55 (Sh_1 d2.1 hS), ck_t, e2', bd_s, k_55 (Sh_1 d3.1 hS), ck_t, e3', bd_s]
theorem m_t0 {M0 : Mem} {p k : Nat} {v : Int32} (hS : Sh M0) (hp : p < 6) (hk : k ≤ 6) (ek : mI M0 57 p = nI k) (ev : mI M0 58 p = v) (n : Nat) (x : Int32) : Cx (MD M0) (fun M => rgE (n + 1) 0 M 55 (nI p) 0 x) (aT0 (nI p) v k x) := by
  refine Cx_p (MD_b hS) (m_walks hS hp hk ek ev x) (fun M N N2 t1 t2 t3 d1 d2 d3 e e2 => ?_)
  have e' : fX12_ran M 55 12 = some ((), N) := e
  have e2' : fX12_walks N 55 (nI p) (nI k) x = _ := e2
  have hS2 := Sh_1 d2.1 hS
  show (ck (isK M 55 12) <| bd (fX12_ran M 55 (12 : Int32)) fun x3 M3 => ck (isK M3 55 12) <| rb (mR M3 55 2) fun b5 => ck (isK M3 b5 14) <| ck (inb (nI p) (mG M3 b5)) <| bd (fX12_walks M3 55 (nI p) (mI M3 b5 (nI p).toNatClampNeg) x) fun x8 M8 => some ((x8 * (2 : Int32)), M8)) = _
  rw [k_55 (Sh_1 d1.1 hS), ck_t, e', bd_s, k_55 hS2, ck_t, r_55_2 hS2, rb_s, k_57 hS2, ck_t, g_57 hS2, inb_n hp (by decide : 6 < 1000000), ck_t, tn (show p < 1000000 by omega), MD_k ek d2, e2', bd_s]
theorem m_t3 {M0 : Mem} {p k : Nat} {v : Int32} (hS : Sh M0) (hp : p < 6) (hk : k ≤ 6) (ek : mI M0 57 p = nI k) (ev : mI M0 58 p = v) (n : Nat) (x : Int32) : Cx (MD M0) (fun M => rgE (n + 2) 0 M 55 (nI p) 3 x) ((aT0 (nI p) v k x).1 + (aWalks (nI p) v k 1).1, 40 :: ((aT0 (nI p) v k x).2 ++ (aWalks (nI p) v k 1).2)) := by
  refine Cx_p2 (MD_b hS) (m_t0 hS hp hk ek ev n x) (m_walks hS hp hk ek ev 1) (fun M N N2 N3 t1 t2 t3 t4 d1 d2 d3 d4 e e2 e3 => ?_)
  have e' : fX12_ran M 55 40 = some ((), N) := e
  have e2' : rgE (n + 1) 0 N 55 (nI p) 0 x = _ := e2
  have e3' : fX12_walks N2 55 (nI p) (nI k) 1 = _ := e3
  have hS3 := Sh_1 d3.1 hS
  show (ck (isK M 55 12) <| bd (fX12_ran M 55 (40 : Int32)) fun x10 M10 => ck (isK M10 55 12) <| bd (rgE (n + 1) 0 M10 55 (nI p) (0 : Int32) x) fun x12 M12 => ck (isK M12 55 12) <| rb (mR M12 55 2) fun b14 => ck (isK M12 b14 14) <| ck (inb (nI p) (mG M12 b14)) <| bd (fX12_walks M12 55 (nI p) (mI M12 b14 (nI p).toNatClampNeg) (1 : Int32)) fun x17 M17 => some ((x12 + x17), M17)) = _
  rw [k_55 (Sh_1 d1.1 hS), ck_t, e', bd_s, k_55 (Sh_1 d2.1 hS), ck_t, e2', bd_s, k_55 hS3, ck_t, r_55_2 hS3, rb_s, k_57 hS3, ck_t, g_57 hS3, inb_n hp (by decide : 6 < 1000000), ck_t, tn (show p < 1000000 by omega), MD_k ek d3, e3', bd_s]
theorem m_tells {M0 : Mem} {p k : Nat} {v : Int32} (hS : Sh M0) (hp : p < 6) (hk : k ≤ 6) (ek : mI M0 57 p = nI k) (ev : mI M0 58 p = v) (x : Int32) : Cx (MD M0) (fun M => fX12_tells M 55 (nI p) (nI k) x) (aTells (nI p) v k x) := by
  rcases kk7 hk with rfl | rfl | rfl | rfl | rfl | rfl | rfl
  · exact m_t0 hS hp hk ek ev 23 x
  · exact m_up (y := 0) (F := rgE 23 0) hS (m_t0 hS hp hk ek ev 22 x)
  · exact m_up (y := 0) (F := rgE 23 0) hS (m_t0 hS hp hk ek ev 22 x)
  · exact m_t3 hS hp hk ek ev 22 x
  · exact m_up (y := 1) (F := rgE 23 0) hS (m_up (y := 0) (F := rgE 22 0) hS (m_t0 hS hp hk ek ev 21 x))
  · refine Cx_p (MD_b hS) (m_up (y := 0) (F := rgE 22 0) hS (m_t0 hS hp hk ek ev 21 (x - nI p))) (fun M N N2 t1 t2 t3 d1 d2 d3 e e2 => ?_)
    have e' : fX12_ran M 55 60 = some ((), N) := e
    have e2' : rgE 23 0 N 55 (nI p) 2 (x - nI p) = _ := e2
    show (ck (isK M 55 12) <| bd (fX12_ran M 55 (60 : Int32)) fun x19 M19 => ck (isK M19 55 12) <| bd (rgE 23 0 M19 55 (nI p) (2 : Int32) (x - nI p)) fun x21 M21 => some (x21, M21)) = _
    rw [k_55 (Sh_1 d1.1 hS), ck_t, e', bd_s, k_55 (Sh_1 d2.1 hS), ck_t, e2', bd_s]
  · exact m_up (y := 3) (F := rgE 23 0) hS (m_t3 hS hp hk ek ev 21 x)
