/-! ===== shift ===== -/
def Cp (M N : Mem) (b s d lo hi : Nat) : Prop := N.1 = M.1 ∧ N.2.1 = M.2.1 ∧ (∀ c, c ≠ b → N.2.2 c = M.2.2 c) ∧ ∀ q, mL N b q = if d + lo ≤ q ∧ q < d + hi then mL M b (s + (q - d)) else mL M b q
theorem Cp_r {M : Mem} {b s d c : Nat} : Cp M M b s d c c := ⟨rfl, rfl, fun _ _ => rfl, fun q => by rw [if_neg (by omega)]⟩
theorem Cp_u {M N : Mem} {b s d c k : Nat} (h : Cp M N b s d 0 c) (hc : c < k) (hd : d ≤ s ∨ s + k ≤ d) : Cp M (stL N b (d + c) (mL N b (s + c))) b s d 0 (c + 1) := by
  obtain ⟨h1, h2, h3, h4⟩ := h
  refine ⟨h1, h2, fun e he => (rowL_st he).trans (h3 e he), fun q => ?_⟩
  rw [mL_stL]
  by_cases g : q = d + c
  · subst g
    rw [if_pos ⟨rfl, rfl⟩, h4, if_neg (by omega), if_pos (by omega), show d + c - d = c by omega]
  · rw [if_neg (by omega), h4]
    by_cases g2 : d + 0 ≤ q ∧ q < d + c
    · rw [if_pos g2, if_pos (by omega)]
    · rw [if_neg g2, if_neg (by omega)]
theorem Cp_d {M N : Mem} {b s d c k : Nat} (h : Cp M N b s d (c + 1) k) (hc : c < k) (hd : s < d) : Cp M (stL N b (d + c) (mL N b (s + c))) b s d c k := by
  obtain ⟨h1, h2, h3, h4⟩ := h
  refine ⟨h1, h2, fun e he => (rowL_st he).trans (h3 e he), fun q => ?_⟩
  rw [mL_stL]
  by_cases g : q = d + c
  · subst g
    rw [if_pos ⟨rfl, rfl⟩, h4, if_neg (by omega), if_pos (by omega), show d + c - d = c by omega]
  · rw [if_neg (by omega), h4]
    by_cases g2 : d + (c + 1) ≤ q ∧ q < d + k
    · rw [if_pos g2, if_pos (by omega)]
    · rw [if_neg g2, if_neg (by omega)]
theorem tix3 (t i c : Nat) : 60 * nI t + nI i + nI c = nI (t * 60 + i + c) := by rw [(tix t i).2, nI_add]
theorem p_shU {M : Mem} {t i o j k : Nat} (hS : Sh M) (h1 : t * 60 + i + k ≤ 360) (h2 : o * 60 + j + k ≤ 360) (hd : o * 60 + j ≤ t * 60 + i ∨ t * 60 + i + k ≤ o * 60 + j) : ∀ (r m c : Nat) (N : Mem), c + r = k → Cp M N 84 (t * 60 + i) (o * 60 + j) 0 c → ∃ P, gX12_shift_170 (m + r + 1) N 55 (nI t) (nI i) (nI o) (nI j) (nI k) (nI c) = some (nI k, P) ∧ Cp M P 84 (t * 60 + i) (o * 60 + j) 0 k := by
  intro r
  induction r with
  | zero =>
    intro m c N hc cp
    have : c = k := by omega
    subst this
    exact ⟨N, by rw [gX12_shift_170_s, if_pos (Int32.le_refl _)], cp⟩
  | succ r ih =>
    intro m c N hc cp
    have hSN : Sh N := Sh_1 cp.1 hS
    obtain ⟨P, p1, p2⟩ := ih m (c + 1) _ (by omega) (Cp_u (k := k) cp (by omega) hd)
    refine ⟨P, ?_, p2⟩
    rw [show m + (r + 1) + 1 = (m + r + 1) + 1 by omega, gX12_shift_170_s, if_neg (by rw [leL (by omega) (by omega)]; omega)]
    simp only [k_55 hSN, r_55_43 hSN, k_84 hSN, g_84 hSN, ck_t, rb_s, tix3, inb_n (show t * 60 + i + c < 360 by omega) (by decide), inb_n (show o * 60 + j + c < 360 by omega) (by decide), tn (show t * 60 + i + c < 1000000 by omega), tn (show o * 60 + j + c < 1000000 by omega), nI_1]
    exact p1
theorem p_shD {M : Mem} {t i o j k : Nat} (hS : Sh M) (h1 : t * 60 + i + k ≤ 360) (h2 : o * 60 + j + k ≤ 360) (hd : t * 60 + i < o * 60 + j) : ∀ (r m : Nat) (N : Mem), r ≤ k → Cp M N 84 (t * 60 + i) (o * 60 + j) r k → ∃ P, gX12_shift_124 (m + r + 1) N 55 (nI t) (nI i) (nI o) (nI j) (nI k) (nI r + (-1)) = some (nI k, P) ∧ Cp M P 84 (t * 60 + i) (o * 60 + j) 0 k := by
  intro r
  induction r with
  | zero =>
    intro m N hc cp
    exact ⟨N, by rw [gX12_shift_124_s, if_pos (by decide)], cp⟩
  | succ r ih =>
    intro m N hc cp
    have hSN : Sh N := Sh_1 cp.1 hS
    obtain ⟨P, p1, p2⟩ := ih m _ (by omega) (Cp_d cp (by omega) hd)
    refine ⟨P, ?_, p2⟩
    rw [nI_m1, show m + (r + 1) + 1 = (m + r + 1) + 1 by omega, gX12_shift_124_s, if_neg (nI_pos (by omega)), k_55 hSN, ck_t, r_55_43 hSN, rb_s, k_84 hSN, ck_t, g_84 hSN, tix3 t i r, tix3 o j r, inb_n (show t * 60 + i + r < 360 by omega) (by decide), ck_t, inb_n (show o * 60 + j + r < 360 by omega) (by decide), ck_t, tn (show t * 60 + i + r < 1000000 by omega), tn (show o * 60 + j + r < 1000000 by omega)]
    exact p1
theorem p_has {M : Mem} {t l : Nat} (hS : Sh M) (ht : t < 6) (hl : l ≤ 60) (e : mI M 19 t = nI l) (x y : Int32) : (fX11_hasItems M 0 (nI t) x y = some (0, M) ∧ (x < 0 ∨ y < 0 ∨ ∃ i k, i < 2 ^ 31 ∧ k < 2 ^ 31 ∧ x = nI i ∧ y = nI k ∧ l < i + k)) ∨ (fX11_hasItems M 0 (nI t) x y = some (1, M) ∧ ∃ i k, i + k ≤ l ∧ x = nI i ∧ y = nI k) := by
  have it := inb_n ht (by decide : 6 < 1000000)
  have tt := tn (show t < 1000000 by omega)
  by_cases x0 : x < 0
  · exact Or.inl ⟨by unfold fX11_hasItems; rw [if_pos x0], Or.inl x0⟩
  by_cases y0 : y < 0
  · exact Or.inl ⟨by unfold fX11_hasItems; rw [if_neg x0, if_pos y0], Or.inr (Or.inl y0)⟩
  obtain ⟨i, hi, rfl⟩ := nI_of x0
  obtain ⟨k, hk, rfl⟩ := nI_of y0
  have cc : nI l - nI i < nI k ↔ l < i + k := by
    rw [Int32.lt_iff_toInt_lt, sub_t hl hi, nI_toInt hk]
    omega
  have e2 : fX11_hasItems M 0 (nI t) (nI i) (nI k) = if nI l - nI i < nI k then some (0, M) else some (1, M) := by
    unfold fX11_hasItems
    rw [if_neg x0, if_neg y0, k_0 hS, ck_t, r_0_16 hS, rb_s, k_19 hS, ck_t, g_19 hS, it, ck_t, tt, e]
  by_cases g : l < i + k
  · exact Or.inl ⟨by rw [e2, if_pos (cc.mpr g)], Or.inr (Or.inr ⟨i, k, hi, hk, rfl, rfl, g⟩)⟩
  · exact Or.inr ⟨by rw [e2, if_neg (fun q => g (cc.mp q))], i, k, by omega, rfl, rfl⟩
theorem lc_gt {i k l : Nat} (hi : i < 2 ^ 31) (hk : k < 2 ^ 31) (hl : l ≤ 60) : (0 < lg_cmp ((nI i).toInt64 + (nI k).toInt64) (nI l).toInt64 ↔ l < i + k) ∧ (lg_cmp ((nI i).toInt64 + (nI k).toInt64) (nI l).toInt64 ≤ 0 ↔ i + k ≤ l) := by
  rw [lg_cmp_gt, lg_cmp_le, nI_l hi, nI_l hk, nI_l (by omega), lN_add, Int64.lt_iff_toInt_lt, Int64.le_iff_toInt_le, lN_t (by omega), lN_t (by omega)]
  omega
theorem cpok_n {s d k : Nat} (h1 : s + k ≤ 360) (h2 : d + k ≤ 360) : cpok (nI s) (nI d) (nI k) 360 360 = true := by
  simp [cpok, nI_pos (show s < 2 ^ 31 by omega), nI_pos (show d < 2 ^ 31 by omega), nI_pos (show k < 2 ^ 31 by omega), tn (show s < 1000000 by omega), tn (show d < 1000000 by omega), tn (show k < 1000000 by omega), h1, h2]
set_option maxHeartbeats 1000000 in
theorem m_shift {M : Mem} {n : Nat} (h : Inv M n) (x y z w v : Int32) : Ok1 (fun M => fX11_shift M 0 x y z w v) (fun M => fX12_shift M 55 x y z w v) M := by
  have hS := h.1
  have hT := h.2.2.2.2.2.2.1
  rcases cs_tape x with ⟨t, ht, rfl, c1, m1, -⟩ | ⟨c0, m0, -⟩
  case inr =>
    refine Ok_m h (a := -1) ?_ ?_
    · simp only [fX11_shift, c0, bd_s, if_true]
    · simp only [fX12_shift, m0, bd_s, if_true]
  rcases cs_tape z with ⟨o, ho, rfl, c2, m2, -⟩ | ⟨c0, m0, -⟩
  case inr =>
    refine Ok_m h (a := -1) ?_ ?_
    · simp only [fX11_shift, c1, c0, bd_s, show ¬ (1 : Int32) = 0 by decide, if_false, if_true]
    · simp only [fX12_shift, m1, m0, bd_s, show ¬ (1 : Int32) = 0 by decide, if_false, if_true]
  have it := inb_n ht (by decide : 6 < 1000000)
  have tt := tn (show t < 1000000 by omega)
  have io := inb_n ho (by decide : 6 < 1000000)
  have to := tn (show o < 1000000 by omega)
  rcases tp_st hT ht with ⟨a1, a2⟩ | ⟨s, l, s4, l60, a1, a2, a3, a4, a5⟩
  · refine Ok_m h (a := -11) ?_ ?_
    · simp only [fX11_shift, c1, c2, bd_s, show ¬ (1 : Int32) = 0 by decide, if_false, if_true, k_0 hS, r_0_15 hS, k_18 hS, g_18 hS, it, tt, ck_t, rb_s, a1]
    · simp only [fX12_shift, m1, m2, bd_s, show ¬ (1 : Int32) = 0 by decide, if_false, if_true, k_55 hS, r_55_41 hS, k_82 hS, g_82 hS, it, tt, ck_t, rb_s, a2, show (-1 : Int32) < 0 by decide]
  obtain ⟨z1, z2, z3⟩ := nm1 s4
  rcases tp_st hT ho with ⟨b1, b2⟩ | ⟨s', l', s4', l60', b1, b2, b3, b4, b5⟩
  · refine Ok_m h (a := -11) ?_ ?_
    · simp only [fX11_shift, c1, c2, bd_s, show ¬ (1 : Int32) = 0 by decide, if_false, if_true, k_0 hS, r_0_15 hS, k_18 hS, g_18 hS, it, tt, io, to, ck_t, rb_s, a1, z1, b1]
    · simp only [fX12_shift, m1, m2, bd_s, show ¬ (1 : Int32) = 0 by decide, if_false, k_55 hS, r_55_41 hS, k_82 hS, g_82 hS, it, tt, io, to, ck_t, rb_s, a2, z3, b2, show ¬ (0 : Int32) ≤ -1 by decide]
  obtain ⟨y1, y2, y3⟩ := nm1 s4'
  by_cases es : s = s'
  case neg =>
    have en : ¬ nI s = nI s' := by rw [eqL (by omega) (by omega)]; exact es
    refine Ok_m h (a := -12) ?_ ?_
    · simp only [fX11_shift, c1, c2, bd_s, show ¬ (1 : Int32) = 0 by decide, if_false, k_0 hS, r_0_15 hS, k_18 hS, g_18 hS, it, tt, io, to, ck_t, rb_s, a1, z1, b1, y1, en]
    · simp only [fX12_shift, m1, m2, bd_s, show ¬ (1 : Int32) = 0 by decide, if_false, if_true, k_55 hS, r_55_41 hS, k_82 hS, g_82 hS, it, tt, io, to, ck_t, rb_s, a2, z3, b2, y2, en]
  subst es
  -- the class up to its two looks, the model up to its own
  have eC : fX11_shift M 0 (nI t) y (nI o) w v = bd (fX11_hasItems M 0 (nI t) y v) fun x10 M10 => if x10 = 0 then (some ((-13 : Int32), M10)) else (ck (isK M10 0 11) <| bd (fX11_hasItems M10 0 (nI o) w v) fun x12 M12 => if x12 = 0 then (some ((-13 : Int32), M12)) else (ck (isK M12 0 11) <| rb (mR M12 0 17) fun b14 => ck (isK M12 b14 15) <| ck (cpok ((nI t * (60 : Int32)) + y) ((nI o * (60 : Int32)) + w) v (mG M12 b14) (mG M12 b14)) <| some (v, (cpL M12 b14 b14 ((nI t * (60 : Int32)) + y).toNatClampNeg ((nI o * (60 : Int32)) + w).toNatClampNeg v.toNatClampNeg)))) := by
    simp only [fX11_shift, c1, c2, bd_s, show ¬ (1 : Int32) = 0 by decide, if_false, if_true, k_0 hS, r_0_15 hS, k_18 hS, g_18 hS, it, tt, io, to, ck_t, rb_s, a1, z1, b1]
  have bad : (y < 0 ∨ v < 0 ∨ ∃ i k, i < 2 ^ 31 ∧ k < 2 ^ 31 ∧ y = nI i ∧ v = nI k ∧ l < i + k) ∨ (w < 0 ∨ v < 0 ∨ ∃ i k, i < 2 ^ 31 ∧ k < 2 ^ 31 ∧ w = nI i ∧ v = nI k ∧ l' < i + k) → fX12_shift M 55 (nI t) y (nI o) w v = some (-13, M) := by
    intro hb
    simp only [fX12_shift, m1, m2, bd_s, show ¬ (1 : Int32) = 0 by decide, if_false, if_true, k_55 hS, r_55_41 hS, k_82 hS, g_82 hS, it, tt, io, to, ck_t, rb_s, a2, z3, b2, z2]
    by_cases v0 : v < 0
    · rw [if_pos v0]
    rw [if_neg v0]
    by_cases w0 : y < 0
    · rw [if_pos w0]
    rw [if_neg w0]
    by_cases u0 : w < 0
    · rw [if_pos u0]
    rw [if_neg u0]
    obtain ⟨i, hi, rfl⟩ := nI_of w0
    obtain ⟨j, hj, rfl⟩ := nI_of u0
    obtain ⟨k, hk, rfl⟩ := nI_of v0
    simp only [r_55_42 hS, k_83 hS, g_83 hS, it, tt, io, to, ck_t, rb_s, a4, b4]
    by_cases g : l < i + k
    · rw [if_pos ((lc_gt hi hk l60).1.mpr g)]
    · rw [if_neg (fun q => g ((lc_gt hi hk l60).1.mp q))]
      have g2 : l' < j + k := by
        rcases hb with (hb | hb | ⟨i', k', hi', hk', e1, e2, hb⟩) | hb | hb | ⟨i', k', hi', hk', e1, e2, hb⟩
        · exact absurd hb w0
        · exact absurd hb v0
        · rw [nI_eq hi hi'] at e1
          rw [nI_eq hk hk'] at e2
          omega
        · exact absurd hb u0
        · exact absurd hb v0
        · rw [nI_eq hj hi'] at e1
          rw [nI_eq hk hk'] at e2
          omega
      rw [if_neg (fun q => by have := (lc_gt hj hk l60').2.mp q; omega)]
  rcases p_has hS ht l60 a3 y v with ⟨f1, f2⟩ | ⟨f1, i, k, f2, rfl, rfl⟩
  · refine Ok_m h (a := -13) ?_ (bad (Or.inl f2))
    show fX11_shift M 0 (nI t) y (nI o) w v = _
    rw [eC, f1, bd_s, if_pos rfl]
  rcases p_has hS ho l60' b3 w (nI k) with ⟨f3, f4⟩ | ⟨f3, j, k', f4, rfl, ek⟩
  · refine Ok_m h (a := -13) ?_ (bad (Or.inr f4))
    show fX11_shift M 0 (nI t) (nI i) (nI o) w (nI k) = _
    rw [eC, f1, bd_s, if_neg (by decide), k_0 hS, ck_t, f3, bd_s, if_pos rfl]
  have hk60 : k ≤ 60 := by omega
  have f4' : j + k ≤ l' := by
    by_cases hk' : k' < 1000000
    · rw [eqL (by omega) hk'] at ek
      omega
    · omega
  have hN : ∃ N, N = cpL M 20 20 (t * 60 + i) (o * 60 + j) k := ⟨_, rfl⟩
  obtain ⟨N, eN⟩ := hN
  have hSN : Sh N := by rw [eN]; exact Sh_1 rfl hS
  have hNI : ∀ b i, mI N b i = mI M b i := by rw [eN]; exact fun _ _ => rfl
  have hNL : ∀ q, mL N 84 q = mL M 84 q := by
    intro q
    rw [eN, mL_cpL, if_neg (by omega)]
  -- the model's copy
  have md : ∃ P, fX12_shift N 55 (nI t) (nI i) (nI o) (nI j) (nI k) = some (nI k, P) ∧ Cp N P 84 (t * 60 + i) (o * 60 + j) 0 k := by
    have a2' : mI N 82 t = nI s := (hNI _ _).trans a2
    have b2' : mI N 82 o = nI s := (hNI _ _).trans b2
    have a4' : mI N 83 t = nI l := (hNI _ _).trans a4
    have b4' : mI N 83 o = nI l' := (hNI _ _).trans b4
    simp only [fX12_shift, m1, m2, bd_s, show ¬ (1 : Int32) = 0 by decide, if_false, if_true, k_55 hSN, r_55_41 hSN, k_82 hSN, g_82 hSN, it, tt, io, to, ck_t, rb_s, a2', z3, b2', z2, nI_pos (show k < 2 ^ 31 by omega), nI_pos (show i < 2 ^ 31 by omega), nI_pos (show j < 2 ^ 31 by omega), r_55_42 hSN, k_83 hSN, g_83 hSN, a4', b4']
    rw [if_neg (fun q => by have := (lc_gt (show i < 2 ^ 31 by omega) (show k < 2 ^ 31 by omega) l60).1.mp q; omega), if_pos ((lc_gt (show j < 2 ^ 31 by omega) (show k < 2 ^ 31 by omega) l60').2.mpr f4')]
    obtain ⟨m, hm⟩ := FUs k (by omega)
    have up : (o * 60 + j ≤ t * 60 + i ∨ t * 60 + i + k ≤ o * 60 + j) → ∃ P, gX12_shift_167 N 55 (nI t) (nI i) (nI o) (nI j) (nI k) = some (nI k, P) ∧ Cp N P 84 (t * 60 + i) (o * 60 + j) 0 k := by
      intro hd
      obtain ⟨P, p1, p2⟩ := p_shU hSN (by omega) (by omega) hd k m 0 N (by omega) Cp_r
      rw [← hm] at p1
      exact ⟨P, p1, p2⟩
    by_cases e : t = o
    · subst e
      rw [if_pos rfl]
      by_cases g : j ≤ i
      · rw [if_pos (by rw [leL (by omega) (by omega)]; exact g)]
        exact up (Or.inl (by omega))
      · rw [if_neg (by rw [leL (by omega) (by omega)]; exact g), show (nI k - 1 : Int32) = nI k + (-1) from Int32.sub_eq_add_neg _ _]
        obtain ⟨P, p1, p2⟩ := p_shD hSN (t := t) (o := t) (i := i) (j := j) (k := k) (by omega) (by omega) (by omega) k m N (Nat.le_refl _) Cp_r
        rw [← hm] at p1
        exact ⟨P, p1, p2⟩
    · rw [if_neg (by rw [eqL (by omega) (by omega)]; exact e)]
      exact up (by omega)
  obtain ⟨P, p1, p2, p3, p4, p5⟩ := md
  refine ⟨nI k, N, P, n, k_55 hSN, ?_, p1, Inv_tp h (p2.trans (by rw [eN]; rfl)) (fun b _ _ _ _ => ?_) (ITape_up (t := o) hT (fun b _ e _ _ => ?_) (fun b hb e he => ?_) (fun _ => ?_))⟩
  · show fX11_shift M 0 (nI t) (nI i) (nI o) (nI j) (nI k) = _
    rw [eC, f1, bd_s, if_neg (by decide), k_0 hS, ck_t, f3, bd_s, if_neg (by decide), k_0 hS, ck_t, r_0_17 hS, rb_s, k_20 hS, ck_t, g_20 hS, (tix t i).1, (tix o j).1, cpok_n (by omega) (by omega), ck_t, tn (show t * 60 + i < 1000000 by omega), tn (show o * 60 + j < 1000000 by omega), tn (show k < 1000000 by omega), eN]
  · rw [p3, eN]
    rfl
  · have : mI P b e = mI N b e := congrFun (congrFun p3 b) e
    rw [this, hNI]
  · rcases hb with rfl | rfl
    · have : mL P 20 e = mL N 20 e := congrFun (p4 20 (by decide)) e
      rw [this, eN, mL_cpL, if_neg (by omega)]
    · rw [p5, if_neg (by omega), hNL]
  · have eI : ∀ b e, mI P b e = mI M b e := fun b e => (congrFun (congrFun p3 b) e).trans (hNI b e)
    rw [eI, eI, eI, eI]
    refine ⟨b1.trans b2.symm, Or.inr ⟨⟨s, s4, b1⟩, l', l60', b3, b4, fun e he => ?_⟩⟩
    have : mL P 20 (o * 60 + e) = mL N 20 (o * 60 + e) := congrFun (p4 20 (by decide)) _
    have e20 : mL N 20 (o * 60 + e) = if 20 = 20 ∧ o * 60 + j ≤ o * 60 + e ∧ o * 60 + e < o * 60 + j + k then mL M 20 (t * 60 + i + (o * 60 + e - (o * 60 + j))) else mL M 20 (o * 60 + e) := by rw [eN, mL_cpL]
    rw [this, e20, p5, hNL, hNL]
    by_cases g : o * 60 + j ≤ o * 60 + e ∧ o * 60 + e < o * 60 + j + k
    · rw [if_pos ⟨rfl, g⟩, if_pos (by omega), show t * 60 + i + (o * 60 + e - (o * 60 + j)) = t * 60 + (i + (e - j)) by omega]
      exact a5 _ (by omega)
    · rw [if_neg (by omega), if_neg (by omega)]
      exact b5 e he
