/-! ===== a tape made anew ===== -/
def Zf (M N : Mem) (b lo hi : Nat) : Prop := N.1 = M.1 ∧ N.2.1 = M.2.1 ∧ (∀ c, c ≠ b → N.2.2 c = M.2.2 c) ∧ ∀ j, mL N b j = if lo ≤ j ∧ j < hi then 0 else mL M b j
theorem Zf_r {M : Mem} {b lo : Nat} : Zf M M b lo lo := ⟨rfl, rfl, fun _ _ => rfl, fun j => by rw [if_neg (by omega)]⟩
theorem rowL_st {M : Mem} {a b i : Nat} {x : Int64} (h : b ≠ a) : (stL M a i x).2.2 b = M.2.2 b := by
  funext j
  show mL (stL M a i x) b j = mL M b j
  rw [mL_stL, if_neg (by omega)]
theorem Zf_s {M N : Mem} {b lo hi : Nat} (h : Zf (stL M b lo 0) N b (lo + 1) hi) (hl : lo < hi) : Zf M N b lo hi := by
  obtain ⟨h1, h2, h3, h4⟩ := h
  refine ⟨h1, h2, fun c hc => (h3 c hc).trans (rowL_st hc), fun j => ?_⟩
  rw [h4, mL_stL]
  by_cases e : j = lo
  · subst e
    rw [if_neg (by omega), if_pos ⟨rfl, rfl⟩, if_pos ⟨Nat.le_refl _, hl⟩]
  · by_cases g : lo + 1 ≤ j ∧ j < hi
    · rw [if_pos g, if_pos (by omega)]
    · rw [if_neg g, if_neg (by omega), if_neg (by omega)]
theorem p_tapeL {t l : Nat} (ht : t < 6) (hl : l ≤ 60) : ∀ (k m i : Nat) (M : Mem), Sh M → i + k = l → ∃ N, gX11_tape_65 (m + k + 1) M 0 (nI t) (nI l) (nI i) = some (1, N) ∧ Zf M N 20 (t * 60 + i) (t * 60 + l) := by
  intro k
  induction k with
  | zero =>
    intro m i M hS hi
    have : i = l := by omega
    subst this
    exact ⟨M, by rw [gX11_tape_65_s, if_pos (Int32.le_refl _)], Zf_r⟩
  | succ k ih =>
    intro m i M hS hi
    obtain ⟨N, n1, n2⟩ := ih m (i + 1) (stL M 20 (t * 60 + i) 0) (Sh_1 rfl hS) (by omega)
    refine ⟨N, ?_, Zf_s n2 (by omega)⟩
    rw [show m + (k + 1) + 1 = (m + k + 1) + 1 by omega, gX11_tape_65_s, if_neg (by rw [leL (by omega) (by omega)]; omega)]
    simp only [k_0 hS, r_0_17 hS, k_20 hS, g_20 hS, ck_t, rb_s, (tix t i).1, inb_n (show t * 60 + i < 360 by omega) (by decide), tn (show t * 60 + i < 1000000 by omega), nI_1]
    exact n1
theorem p_mtapeL {t : Nat} (ht : t < 6) : ∀ (k m i : Nat) (M : Mem), Sh M → i + k = 60 → ∃ N, gX12_tape_67 (m + k + 1) M 55 (nI t) (nI i) = some (1, N) ∧ Zf M N 84 (t * 60 + i) (t * 60 + 60) := by
  intro k
  induction k with
  | zero =>
    intro m i M hS hi
    have : i = 60 := by omega
    subst this
    exact ⟨M, by rw [gX12_tape_67_s, if_pos (by decide)], Zf_r⟩
  | succ k ih =>
    intro m i M hS hi
    obtain ⟨N, n1, n2⟩ := ih m (i + 1) (stL M 84 (t * 60 + i) 0) (Sh_1 rfl hS) (by omega)
    refine ⟨N, ?_, Zf_s n2 (by omega)⟩
    rw [show m + (k + 1) + 1 = (m + k + 1) + 1 by omega, gX12_tape_67_s, if_neg (by rw [show (60 : Int32) = nI 60 from rfl, leL (by omega) (by omega)]; omega)]
    simp only [k_55 hS, r_55_43 hS, k_84 hS, g_84 hS, ck_t, rb_s, (tix t i).2, inb_n (show t * 60 + i < 360 by omega) (by decide), tn (show t * 60 + i < 1000000 by omega), nI_1]
    exact n1
theorem wi_m {M : Mem} {x : Int32} (h1 : ¬ x < -1) (h2 : ¬ 4 < x) : fX12_within M x (-1) 4 = some (1, M) := by
  unfold fX12_within
  rw [if_neg h1, if_neg h2]
theorem wi_m0 {M : Mem} {x : Int32} (h : x < -1 ∨ 4 < x) : fX12_within M x (-1) 4 = some (0, M) := by
  unfold fX12_within
  by_cases h1 : x < -1
  · rw [if_pos h1]
  · rw [if_neg h1, if_pos (h.resolve_left h1)]
/-- the model's tape, once all is well -/
theorem p_mtape {M : Mem} {t : Nat} {y w : Int32} {z : Int32} (hS : Sh M) (ht : t < 6) (hw : w = if 0 ≤ y then z else 0) : ∃ P, gX12_tape_42 M 55 (nI t) y z = some (1, P) ∧ Zf (stI (stI M 82 t y) 83 t w) P 84 (t * 60) (t * 60 + 60) := by
  have it := inb_n ht (by decide : 6 < 1000000)
  have tt := tn (show t < 1000000 by omega)
  have hS1 : Sh (stI M 82 t y) := Sh_1 rfl hS
  have hS2 : Sh (stI (stI M 82 t y) 83 t w) := Sh_1 rfl hS
  obtain ⟨m, hm⟩ := FUs 60 (by decide)
  obtain ⟨P, p1, p2⟩ := p_mtapeL ht 60 m 0 (stI (stI M 82 t y) 83 t w) hS2 rfl
  rw [← hm] at p1
  refine ⟨P, ?_, p2⟩
  have go : gX12_tape_63 (stI M 82 t y) 55 (nI t) w (nI t) 83 = some (1, P) := by
    unfold gX12_tape_63
    rw [k_83 hS1, ck_t, g_83 hS1, it, ck_t, tt]
    exact p1
  unfold gX12_tape_42
  simp only [k_55 hS, r_55_41 hS, k_82 hS, g_82 hS, ck_t, rb_s, it, tt, r_55_42 hS1]
  by_cases g : 0 ≤ y
  · rw [if_pos g]
    rw [if_pos g] at hw
    rw [← hw]
    exact go
  · rw [if_neg g]
    rw [if_neg g] at hw
    rw [← hw]
    exact go
theorem m_tape {M : Mem} {n : Nat} (h : Inv M n) (x y z : Int32) : Ok1 (fun M => fX11_tape M 0 x y z) (fun M => fX12_tape M 55 x y z) M := by
  have hS := h.1
  have hT := h.2.2.2.2.2.2.1
  rcases cs_tape x with ⟨t, ht, rfl, c1, m1, -⟩ | ⟨c0, m0, -⟩
  · have it := inb_n ht (by decide : 6 < 1000000)
    have tt := tn (show t < 1000000 by omega)
    by_cases y1 : y = -1
    · subst y1
      have hS1 : Sh (stI M 18 t (-1)) := Sh_1 rfl hS
      obtain ⟨P, p1, p2, p3, p4, p5⟩ := p_mtape (y := -1) (w := 0) (z := z) hS1 ht (by rw [if_neg (by decide)])
      have eI : ∀ b i, mI P b i = mI (stI (stI (stI M 18 t (-1)) 82 t (-1)) 83 t 0) b i := fun b i => congrFun (congrFun p3 b) i
      refine ⟨1, stI M 18 t (-1), P, n, k_55 hS, ?_, ?_, Inv_tp h p2 (fun b b1 b2 b3 b4 => ?_) (ITape_up (t := t) hT (fun b hb i hi hit => ?_) (fun b hb i hi => ?_) (fun _ => ?_))⟩
      · simp only [fX11_tape, c1, bd_s, show ¬ (1 : Int32) = 0 by decide, if_false, if_true, k_0 hS, r_0_15 hS, k_18 hS, g_18 hS, it, tt, ck_t, rb_s]
      · simp only [fX12_tape, m1, bd_s, show ¬ (1 : Int32) = 0 by decide, if_false, if_true, wi_m (x := -1) (by decide) (by decide), show (-1 : Int32) < 0 by decide, gX12_tape_31]
        exact p1
      · rw [p3, row_st b4, row_st b3, row_st b1]
      · rw [eI, mI_stI, if_neg (by omega), mI_stI, if_neg (by omega), mI_stI, if_neg (by omega)]
      · rcases hb with rfl | rfl
        · exact congrFun (p4 20 (by decide)) i
        · rw [p5, if_neg (by omega)]
          rfl
      · rw [eI, eI]
        refine ⟨?_, Or.inl ?_⟩
        · simp [mI_stI]
        · simp [mI_stI]
    rcases rng (L := 5) (K := 4) (n := 5) y rfl rfl (by decide) with ⟨s, hs, rfl, h1, h2, h3, h4, h5⟩ | h1 | ⟨h1, h2, h3, h4, h5⟩
    · have hm1 : ¬ nI s < -1 := fun q => h1 (Int32.lt_trans q (by decide))
      have h0 : (0 : Int32) ≤ nI s := nI_pos' (by omega)
      by_cases z1 : z ≤ 60
      · by_cases z0 : z < 0
        · have z0' : ¬ 0 ≤ z := fun q => Int32.not_le.mpr z0 q
          refine Ok_m h (a := -14) ?_ ?_
          · simp only [fX11_tape, c1, bd_s, show ¬ (1 : Int32) = 0 by decide, if_false, if_true, y1, h1, h2, z1, z0']
          · simp only [fX12_tape, m1, bd_s, show ¬ (1 : Int32) = 0 by decide, if_false, if_true, wi_m hm1 h5, h1, z1, gX12_tape_31, z0']
        · obtain ⟨l, hl, rfl⟩ := nI_of2 (M := 60) (n := 60) rfl z0 z1
          have z0' : 0 ≤ nI l := nI_pos' (by omega)
          have hS1 : Sh (stI (stI M 18 t (nI s)) 19 t (nI l)) := Sh_1 rfl hS
          obtain ⟨m, hm⟩ := FUs l (by omega)
          obtain ⟨N, n1, n2, n3, n4, n5⟩ := p_tapeL ht hl l m 0 (stI (stI M 18 t (nI s)) 19 t (nI l)) hS1 (by omega)
          rw [← hm] at n1
          have hSN : Sh N := Sh_1 n2 hS1
          obtain ⟨P, p1, p2, p3, p4, p5⟩ := p_mtape (y := nI s) (w := nI l) (z := nI l) hSN ht (by rw [if_pos h0])
          have eI : ∀ b i, mI P b i = mI (stI (stI N 82 t (nI s)) 83 t (nI l)) b i := fun b i => congrFun (congrFun p3 b) i
          have eN : ∀ b i, mI N b i = mI (stI (stI M 18 t (nI s)) 19 t (nI l)) b i := fun b i => congrFun (congrFun n3 b) i
          refine ⟨1, N, P, n, k_55 hSN, ?_, ?_, Inv_tp h (p2.trans n2) (fun b b1 b2 b3 b4 => ?_) (ITape_up (t := t) hT (fun b hb i hi hit => ?_) (fun b hb i hi => ?_) (fun _ => ?_))⟩
          · simp only [fX11_tape, c1, bd_s, show ¬ (1 : Int32) = 0 by decide, if_false, if_true, y1, h1, h2, z1, z0', k_0 hS, r_0_15 hS, r_0_16 hS, mR_stI, k_18 hS, g_18 hS, k_19 hS, g_19 hS, it, tt, ck_t, rb_s]
            exact n1
          · simp only [fX12_tape, m1, bd_s, show ¬ (1 : Int32) = 0 by decide, if_false, if_true, wi_m hm1 h5, h1, z1, gX12_tape_31, z0']
            exact p1
          · rw [p3, row_st b4, row_st b3, n3, row_st b2, row_st b1]
          · rw [eI, mI_stI, if_neg (by omega), mI_stI, if_neg (by omega), eN, mI_stI, if_neg (by omega), mI_stI, if_neg (by omega)]
          · rcases hb with rfl | rfl
            · have : mL P 20 i = mL N 20 i := congrFun (p4 20 (by decide)) i
              rw [this, n5, if_neg (by omega)]
              rfl
            · rw [p5, if_neg (by omega)]
              show mL N 84 i = mL M 84 i
              exact congrFun (n4 84 (by decide)) i
          · have v18 : mI P 18 t = nI s := by rw [eI, mI_stI, if_neg (by omega), mI_stI, if_neg (by omega), eN, mI_stI, if_neg (by omega), mI_stI, if_pos ⟨rfl, rfl⟩]
            have v82 : mI P 82 t = nI s := by rw [eI, mI_stI, if_neg (by omega), mI_stI, if_pos ⟨rfl, rfl⟩]
            have v19 : mI P 19 t = nI l := by rw [eI, mI_stI, if_neg (by omega), mI_stI, if_neg (by omega), eN, mI_stI, if_pos ⟨rfl, rfl⟩]
            have v83 : mI P 83 t = nI l := by rw [eI, mI_stI, if_pos ⟨rfl, rfl⟩]
            refine ⟨v18.trans v82.symm, Or.inr ⟨⟨s, by omega, v18⟩, l, hl, v19, v83, fun i hi => ?_⟩⟩
            have : mL P 20 (t * 60 + i) = mL N 20 (t * 60 + i) := congrFun (p4 20 (by decide)) _
            rw [this, n5, if_pos (by omega), p5, if_pos (by omega)]
      · refine Ok_m h (a := -2) ?_ ?_
        · simp only [fX11_tape, c1, bd_s, show ¬ (1 : Int32) = 0 by decide, if_false, y1, h1, h2, z1]
        · simp only [fX12_tape, m1, bd_s, show ¬ (1 : Int32) = 0 by decide, if_false, wi_m hm1 h5, h1, z1]
    · have hm1 : y < -1 := by
        rw [Int32.lt_iff_toInt_lt] at h1 ⊢
        have e0 : (0 : Int32).toInt = 0 := rfl
        have e1 : (-1 : Int32).toInt = -1 := rfl
        have : y.toInt ≠ -1 := fun q => y1 (Int32.toInt_inj.mp (q.trans e1.symm))
        omega
      refine Ok_m h (a := -2) ?_ ?_
      · simp only [fX11_tape, c1, bd_s, show ¬ (1 : Int32) = 0 by decide, if_false, y1, h1, if_true]
      · simp only [fX12_tape, m1, bd_s, show ¬ (1 : Int32) = 0 by decide, if_false, if_true, wi_m0 (Or.inl hm1)]
    · refine Ok_m h (a := -2) ?_ ?_
      · simp only [fX11_tape, c1, bd_s, show ¬ (1 : Int32) = 0 by decide, if_false, y1, h1, h2, if_true]
      · simp only [fX12_tape, m1, bd_s, show ¬ (1 : Int32) = 0 by decide, if_false, if_true, wi_m0 (Or.inr h5)]
  · refine Ok_m h (a := -1) ?_ ?_
    · simp only [fX11_tape, c0, bd_s, if_true]
    · simp only [fX12_tape, m0, bd_s, if_true]
/-! ===== judge ===== -/
theorem lN_t {a : Nat} (h : a < 2 ^ 62) : (lN a).toInt = a := Int64.toInt_ofNat_of_lt (by omega)
theorem sub_t {l i : Nat} (hl : l ≤ 60) (hi : i < 2 ^ 31) : (nI l - nI i).toInt = (l : Int) - i := by
  rw [Int32.toInt_sub, nI_toInt (by omega), nI_toInt hi]
  apply Int.bmod_eq_of_le
  · omega
  · omega
def aJg (w : Nat → Int32) (f : Nat → Int64) (l i : Nat) : Nat → Nat → Int32
  | 0, _ => -5
  | k + 1, c => if i + c < l then (if lg_cmp (f (i + c)) (w c).toInt64 = 0 then aJg w f l i k (c + 1) else nI c) else 100 + nI c
theorem p_jgL {M : Mem} {t l i : Nat} (hS : Sh M) (eH : hC M 31 = hM M) (ht : t < 6) (hl : l ≤ 60) (hi : i < 2 ^ 31) (a3 : mI M 19 t = nI l) (a5 : ∀ i, i < l → mL M 20 (t * 60 + i) = mL M 84 (t * 60 + i)) : ∀ (k m c : Nat), c + k = 25 → gX11_judge_43 (m + k + 1) M 0 (nI t) (nI i) (nI c) = some (aJg (mI M 56) (fun j => mL M 84 (t * 60 + j)) l i k c, M) := by
  intro k
  induction k with
  | zero =>
    intro m c hc
    have : c = 25 := by omega
    subst this
    rw [gX11_judge_43_s, if_pos (by decide)]
    rfl
  | succ k ih =>
    intro m c hc
    have cc : nI i < nI l - nI c ↔ i + c < l := by
      rw [Int32.lt_iff_toInt_lt, nI_toInt hi, sub_t hl (by omega)]
      omega
    rw [show m + (k + 1) + 1 = (m + k + 1) + 1 by omega, gX11_judge_43_s, if_neg (ge25 (by omega))]
    simp only [k_0 hS, r_0_16 hS, k_19 hS, g_19 hS, inb_n ht (by decide : 6 < 1000000), tn (show t < 1000000 by omega), ck_t, rb_s, a3]
    unfold aJg
    by_cases g : i + c < l
    · have ex : nI t * 60 + nI i + nI c = nI (t * 60 + (i + c)) := by rw [(tix t i).1, nI_add, Nat.add_assoc]
      rw [if_pos (cc.mpr g), if_pos g]
      simp only [r_0_17 hS, k_20 hS, g_20 hS, ex, inb_n (show t * 60 + (i + c) < 360 by omega) (by decide), tn (show t * 60 + (i + c) < 1000000 by omega), r_0_0 hS, k_31 hS, r_31_3 hS, k_32 hS, g_32 hS, inb_n (show c < 25 by omega) (by decide), tn (show c < 1000000 by omega), ck_t, rb_s, a5 _ g, cm_0 eH (show c < 25 by omega), nI_1]
      split
      · exact ih m (c + 1) (by omega)
      · rfl
    · rw [if_neg (fun q => g (cc.mp q)), if_neg g]
theorem p_mjgL {M : Mem} {t l i s : Nat} (hS : Sh M) (ht : t < 6) (hs : s ≤ 4) (hl : l ≤ 60) (hi : i < 2 ^ 31) (a2 : mI M 82 t = nI s) (a3 : mI M 83 t = nI l) : ∀ (k m c : Nat), c + k = 25 → gX12_judge_35 (m + k + 1) M 55 (nI t) (nI i) (nI c) = some (aJg (mI M 56) (fun j => mL M 84 (t * 60 + j)) l i k c, M) := by
  obtain ⟨z1, z2, z3⟩ := nm1 hs
  intro k
  induction k with
  | zero =>
    intro m c hc
    have : c = 25 := by omega
    subst this
    rw [gX12_judge_35_s, if_pos (by decide)]
    rfl
  | succ k ih =>
    intro m c hc
    have cc : lg_cmp ((nI i).toInt64 + (nI c).toInt64) (nI l).toInt64 < 0 ↔ i + c < l := by
      rw [lg_cmp_lt, nI_l hi, nI_l (by omega), nI_l (by omega), lN_add, Int64.lt_iff_toInt_lt, lN_t (by omega), lN_t (by omega)]
      omega
    rw [show m + (k + 1) + 1 = (m + k + 1) + 1 by omega, gX12_judge_35_s, if_neg (ge25 (by omega))]
    simp only [k_55 hS, r_55_41 hS, k_82 hS, g_82 hS, r_55_42 hS, k_83 hS, g_83 hS, inb_n ht (by decide : 6 < 1000000), tn (show t < 1000000 by omega), ck_t, rb_s, a2, a3, z1, if_false, nI_pos hi]
    unfold aJg
    by_cases g : i + c < l
    · have ex : 60 * nI t + nI i + nI c = nI (t * 60 + (i + c)) := by rw [(tix t i).2, nI_add, Nat.add_assoc]
      rw [if_pos (cc.mpr g), if_pos g]
      simp only [r_55_43 hS, k_84 hS, g_84 hS, ex, inb_n (show t * 60 + (i + c) < 360 by omega) (by decide), tn (show t * 60 + (i + c) < 1000000 by omega), r_55_0 hS, k_56 hS, g_56 hS, inb_n (show c < 25 by omega) (by decide), tn (show c < 1000000 by omega), ck_t, rb_s, nI_1]
      split
      · exact ih m (c + 1) (by omega)
      · rfl
    · rw [if_neg (fun q => g (cc.mp q)), if_neg g]
theorem m_judge {M : Mem} {n : Nat} (h : Inv M n) (x y : Int32) : Ok1 (fun M => fX11_judge M 0 x y) (fun M => fX12_judge M 55 x y) M := by
  obtain ⟨s, lw, bd, o⟩ := Op_of h
  have hS := o.1
  have eH := o.2.2.2.2.1
  have hT := h.2.2.2.2.2.2.1
  obtain ⟨m, hm⟩ := FUs 25 (by decide)
  rcases cs_tape x with ⟨t, ht, rfl, c1, -, m1⟩ | ⟨c0, -, m0⟩
  · have it := inb_n ht (by decide : 6 < 1000000)
    have tt := tn (show t < 1000000 by omega)
    rcases tp_st hT ht with ⟨a1, a2⟩ | ⟨s, l, s4, l60, a1, a2, a3, a4, a5⟩
    · refine Ok_m h (a := 100) ?_ ?_
      · simp only [fX11_judge, c1, bd_s, show ¬ (1 : Int32) = 0 by decide, if_false, if_true, k_0 hS, r_0_15 hS, k_18 hS, g_18 hS, it, tt, ck_t, rb_s, a1]
      · simp only [fX12_judge, m1, bd_s, show ¬ (1 : Int32) = 0 by decide, if_false, if_true, k_55 hS, r_55_41 hS, k_82 hS, g_82 hS, it, tt, ck_t, rb_s, a2, gX12_judge_33]
        rw [hm, gX12_judge_35_s, if_neg (by decide)]
        simp only [k_55 hS, r_55_41 hS, k_82 hS, g_82 hS, it, tt, ck_t, rb_s, a2, if_true]
        rfl
    · obtain ⟨z1, z2, z3⟩ := nm1 s4
      by_cases s0 : s = 0
      · subst s0
        by_cases y0 : y < 0
        · have y0' : ¬ 0 ≤ y := fun q => Int32.not_le.mpr y0 q
          refine Ok_m h (a := 100) ?_ ?_
          · simp only [fX11_judge, c1, bd_s, show ¬ (1 : Int32) = 0 by decide, if_false, k_0 hS, r_0_15 hS, k_18 hS, g_18 hS, it, tt, ck_t, rb_s, a1, z1]
            rw [if_pos (by decide), if_neg y0']
          · simp only [fX12_judge, m1, bd_s, show ¬ (1 : Int32) = 0 by decide, if_false, k_55 hS, r_55_41 hS, k_82 hS, g_82 hS, it, tt, ck_t, rb_s, a2, z1, gX12_judge_33]
            rw [if_pos (by decide), hm, gX12_judge_35_s, if_neg (by decide)]
            simp only [k_55 hS, r_55_41 hS, k_82 hS, g_82 hS, it, tt, ck_t, rb_s, a2, z1, if_false, y0, if_true]
            rfl
        · obtain ⟨i, hi, rfl⟩ := nI_of y0
          have y0' : 0 ≤ nI i := nI_pos' hi
          have u1 := p_jgL hS eH ht l60 hi a3 a5 25 m 0 rfl
          have u2 := p_mjgL hS ht s4 l60 hi a2 a4 25 m 0 rfl
          rw [← hm] at u1 u2
          refine Ok_m h (a := aJg (mI M 56) (fun j => mL M 84 (t * 60 + j)) l i 25 0) ?_ ?_
          · simp only [fX11_judge, c1, bd_s, show ¬ (1 : Int32) = 0 by decide, if_false, k_0 hS, r_0_15 hS, k_18 hS, g_18 hS, it, tt, ck_t, rb_s, a1, z1]
            rw [if_pos (by decide), if_pos y0']
            exact u1
          · simp only [fX12_judge, m1, bd_s, show ¬ (1 : Int32) = 0 by decide, if_false, k_55 hS, r_55_41 hS, k_82 hS, g_82 hS, it, tt, ck_t, rb_s, a2, z1, gX12_judge_33]
            rw [if_pos (by decide)]
            exact u2
      · have sn : ¬ nI s = 0 := nI_ne0 (by omega) (by omega)
        refine Ok_m h (a := -12) ?_ ?_
        · simp only [fX11_judge, c1, bd_s, show ¬ (1 : Int32) = 0 by decide, if_false, k_0 hS, r_0_15 hS, k_18 hS, g_18 hS, it, tt, ck_t, rb_s, a1, z1, sn]
        · simp only [fX12_judge, m1, bd_s, show ¬ (1 : Int32) = 0 by decide, if_false, k_55 hS, r_55_41 hS, k_82 hS, g_82 hS, it, tt, ck_t, rb_s, a2, z1, sn]
  · refine Ok_m h (a := -1) ?_ ?_
    · simp only [fX11_judge, c0, bd_s, if_true]
    · simp only [fX12_judge, m0, bd_s, if_true]
