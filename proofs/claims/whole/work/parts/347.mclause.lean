/-! ===== the model's clauses and statutes ===== -/
def MC (M : Mem) (ix cd : Nat) (c : Cl) : Prop := mI M 64 ix = nI c.1 ∧ mI M 65 ix = nI c.2.1 ∧ ∃ bg, bg + c.2.2.length ≤ cd ∧ mI M 66 ix = nI bg ∧ mI M 67 ix = nI c.2.2.length ∧ ∀ i, i < c.2.2.length → ∃ x, c.2.2[i]? = some x ∧ mI M 68 (bg + i) = nI x
/-- what reading a clause leaves of the memory M -/
def MB (M : Mem) (t ix cd : Nat) (N : Mem) (r : Bool × Nat × Cl) : Prop := N.1 = M.1 ∧ N.2.2 = M.2.2 ∧ (∀ b, b ≠ 55 → ¬ (64 ≤ b ∧ b ≤ 68) → N.2.1 b = M.2.1 b) ∧ (∀ f, f ≠ 10 → f ≠ 11 → f ≠ 12 → f ≠ 13 → f ≠ 22 → mI N 55 f = mI M 55 f) ∧ r.2.1 ≤ t ∧ mI N 55 10 = nI r.2.1 ∧ (∀ b i, 64 ≤ b → b ≤ 67 → i ≠ ix → mI N b i = mI M b i) ∧ (∀ i, i < cd → mI N 68 i = mI M 68 i) ∧ ∃ cd', cd ≤ cd' ∧ mI N 55 22 = nI cd' ∧ (r.1 = true → cd' = cd + r.2.2.2.2.length ∧ MC N ix cd' r.2.2)
section MCL
variable {t cd : Nat} {tx : Nat → Nat}
theorem MB_p {M N : Mem} {ix a : Nat} {ov : Int32} {r : Bool × Nat × Cl} (h : MP M t tx cd N a [] ov) (hr : r.1 = false) (ha : r.2.1 = a) : MB M t ix cd N r := by
  obtain ⟨h1, h2, h3, h4, h5, h6, h7, h8, h9, h10⟩ := h
  exact ⟨h1, h2, fun b b1 b2 => h3 b b1 (by omega), h4, by rw [ha]; exact h5, by rw [ha]; exact h6, fun b i b1 b2 _ => congrFun (h3 b (by omega) (by omega)) i, h9, cd, Nat.le_refl _, h8, fun q => by rw [hr] at q; cases q⟩
theorem m_body {M N0 : Mem} (e : ME M t tx cd) {a w ix : Nat} {ov : Int32} (h : MP M t tx cd N0 a [] ov) (hw : w ≤ 2) (hx : ix < 61) (hcd : cd ≤ 600) : ∃ N, gX12_isClause_133 N0 55 (nI ix) (nI w) 1 = some (b2 (if w = 2 then pBald t tx a else pBody t tx w a).1, N) ∧ MB M t ix cd N (if w = 2 then pBald t tx a else pBody t tx w a) := by
  have ht1 := e.2.1
  have ht := e.2.2.1
  have hS0 := (MP_8 e h).1
  obtain ⟨n1, n2, n3, n4⟩ := pNum_in (tx := tx) ht h.2.2.2.2.1
  obtain ⟨A, a1, a2, a3⟩ := m_num e h
  have hSA := (MP_8 e a2).1
  have ik := inb_n hx (by decide : 61 < 1000000)
  have tk := tn (show ix < 1000000 by omega)
  unfold gX12_isClause_133
  rw [if_neg n10, k_55 hS0, ck_t, a1, bd_s]
  by_cases g : (pNum t tx a).1 = true
  · obtain ⟨B, eB⟩ : ∃ B, B = stI (stI (stI (stI A 64 ix (nI w)) 65 ix (nI (pNum t tx a).2.2)) 66 ix (nI cd)) 55 13 0 := ⟨_, rfl⟩
    have hSB : Sh B := by rw [eB]; exact Sh_1 rfl hSA
    have u11 : mI (stI A 64 ix (nI w)) 55 11 = nI (pNum t tx a).2.2 := by rw [mI_stI, if_neg (by omega)]; exact a3 g
    have u22 : mI (stI (stI A 64 ix (nI w)) 65 ix (nI (pNum t tx a).2.2)) 55 22 = nI cd := by rw [mI_stI, if_neg (by omega), mI_stI, if_neg (by omega)]; exact a2.2.2.2.2.2.2.2.1
    have rB : ∀ b, b ≠ 55 → ¬ (64 ≤ b ∧ b ≤ 68) → B.2.1 b = M.2.1 b := fun b b1 b2 => by
      rw [eB, row_st b1, row_st (by omega), row_st (by omega), row_st (by omega)]
      exact a2.2.2.1 b b1 (by omega)
    have fB : ∀ f, f ≠ 10 → f ≠ 11 → f ≠ 12 → f ≠ 13 → f ≠ 22 → mI B 55 f = mI M 55 f := fun f f1 f2 f3 f4 f5 => by
      rw [eB, mI_stI, if_neg (by omega), mI_stI, if_neg (by omega), mI_stI, if_neg (by omega), mI_stI, if_neg (by omega)]
      exact a2.2.2.2.1 f f1 f2 f3 f4 f5
    have B10 : mI B 55 10 = nI (pNum t tx a).2.1 := by
      rw [eB, mI_stI, if_neg (by omega), mI_stI, if_neg (by omega), mI_stI, if_neg (by omega), mI_stI, if_neg (by omega)]
      exact a2.2.2.2.2.2.1
    have B22 : mI B 55 22 = nI cd := by
      rw [eB, mI_stI, if_neg (by omega), mI_stI, if_neg (by omega), mI_stI, if_neg (by omega), mI_stI, if_neg (by omega)]
      exact a2.2.2.2.2.2.2.2.1
    have B64 : mI B 64 ix = nI w := by rw [eB, mI_stI, if_neg (by omega), mI_stI, if_neg (by omega), mI_stI, if_neg (by omega), mI_stI, if_pos ⟨rfl, rfl⟩]
    have B65 : mI B 65 ix = nI (pNum t tx a).2.2 := by rw [eB, mI_stI, if_neg (by omega), mI_stI, if_neg (by omega), mI_stI, if_pos ⟨rfl, rfl⟩]
    have B66 : mI B 66 ix = nI cd := by rw [eB, mI_stI, if_neg (by omega), mI_stI, if_pos ⟨rfl, rfl⟩]
    have Bo : ∀ b i, 64 ≤ b → b ≤ 67 → i ≠ ix → mI B b i = mI M b i := fun b i b1 b2 hi => by
      rw [eB, mI_stI, if_neg (by omega), mI_stI, if_neg (by omega), mI_stI, if_neg (by omega), mI_stI, if_neg (by omega)]
      exact congrFun (a2.2.2.1 b (by omega) (by omega)) i
    have B68 : ∀ i, i < cd → mI B 68 i = mI M 68 i := fun i hi => by
      rw [eB, mI_stI, if_neg (by omega), mI_stI, if_neg (by omega), mI_stI, if_neg (by omega), mI_stI, if_neg (by omega)]
      exact a2.2.2.2.2.2.2.2.2.1 i hi
    have eBM : ME B t tx cd := ⟨hSB, ht1, ht, (fB 8 (by decide) (by decide) (by decide) (by decide) (by decide)).trans e.2.2.2.1, fun i hi => (congrFun (rB 62 (by decide) (by omega)) i).trans (e.2.2.2.2.1 i hi), hcd⟩
    have pB : MP B t tx cd B (pNum t tx a).2.1 [] 0 := ⟨rfl, rfl, fun _ _ _ => rfl, fun _ _ _ _ _ _ => rfl, n2, B10, by rw [eB, mI_stI, if_pos ⟨rfl, rfl⟩], B22, fun _ _ => rfl, fun i hi => absurd hi (Nat.not_lt_zero _)⟩
    have st : (k : Int32) → (if k = 0 then (some ((0 : Int32), A)) else (ck (isK A 55 12) <| rb (mR A 55 17) fun b5 => ck (isK A b5 14) <| ck (inb (nI ix) (mG A b5)) <| rb (mR (stI A b5 (nI ix).toNatClampNeg (nI w)) 55 18) fun b8 => ck (isK A b8 14) <| ck (inb (nI ix) (mG A b8)) <| rb (mR (stI (stI A b5 (nI ix).toNatClampNeg (nI w)) b8 (nI ix).toNatClampNeg (mI (stI A b5 (nI ix).toNatClampNeg (nI w)) 55 11)) 55 19) fun b11 => ck (isK A b11 14) <| ck (inb (nI ix) (mG A b11)) <| nm (stI (stI (stI A b5 (nI ix).toNatClampNeg (nI w)) b8 (nI ix).toNatClampNeg (mI (stI A b5 (nI ix).toNatClampNeg (nI w)) 55 11)) b11 (nI ix).toNatClampNeg (mI (stI (stI A b5 (nI ix).toNatClampNeg (nI w)) b8 (nI ix).toNatClampNeg (mI (stI A b5 (nI ix).toNatClampNeg (nI w)) 55 11)) 55 22)) fun M14 => ck (isK M14 55 12) <| if (2 : Int32) ≤ nI w then (gX12_isClause_202 (stI M14 55 13 (0 : Int32)) 55 (nI ix)) else (bd (fX12_is (stI M14 55 13 (0 : Int32)) 55 (32 : Int32)) fun x23 M23 => if x23 = 0 then (some ((0 : Int32), M23)) else (ck (isK M23 55 12) <| bd (fX12_isE M23 55) fun x25 M25 => if x25 = 0 then (some ((0 : Int32), M25)) else (gX12_isClause_202 M25 55 (nI ix)))))) = if k = 0 then (some ((0 : Int32), A)) else (if (2 : Int32) ≤ nI w then gX12_isClause_202 B 55 (nI ix) else (bd (fX12_is B 55 (32 : Int32)) fun x23 M23 => if x23 = 0 then (some ((0 : Int32), M23)) else (ck (isK M23 55 12) <| bd (fX12_isE M23 55) fun x25 M25 => if x25 = 0 then (some ((0 : Int32), M25)) else (gX12_isClause_202 M25 55 (nI ix))))) := by
      intro k
      rw [k_55 hSA, ck_t, r_55_17 hSA, rb_s, k_64 hSA, ck_t, g_64 hSA, ik, ck_t, mR_stI, r_55_18 hSA, rb_s, k_65 hSA, ck_t, g_65 hSA, ik, ck_t, mR_stI, mR_stI, r_55_19 hSA, rb_s, k_66 hSA, ck_t, g_66 hSA, ik, ck_t, nm_s, tk, u11, u22, isK_stI, isK_stI, isK_stI, k_55 hSA, ck_t, ← eB]
    rw [b2_t g, st 1, if_neg n10]
    have fin : ∀ (P : Mem) (cl : List Nat) (aa : Nat), MP B t tx cd P aa cl 0 → cl.length ≤ 100 → ∃ N, gX12_isClause_202 P 55 (nI ix) = some (1, N) ∧ MB M t ix cd N (true, aa, (w, (pNum t tx a).2.2, cl)) := by
      intro P cl aa hP hc
      have hSP := (MP_8 eBM hP).1
      obtain ⟨h1, h2, h3, h4, h5, h6, h7, h8, h9, h10⟩ := hP
      have P66 : mI P 66 ix = nI cd := (congrFun (h3 66 (by decide) (by decide)) ix).trans B66
      refine ⟨stI P 67 ix (nI cl.length), ?_, h1.trans (by rw [eB]; exact a2.1), h2.trans (by rw [eB]; exact a2.2.1), fun b b1 b2 => ?_, fun f f1 f2 f3 f4 f5 => ?_, h5, ?_, fun b i b1 b2 hi => ?_, fun i hi => ?_, cd + cl.length, by omega, ?_, fun _ => ⟨rfl, ?_, ?_, cd, Nat.le_refl _, ?_, ?_, fun i hi => ?_⟩⟩
      · unfold gX12_isClause_202
        rw [k_55 hSP, ck_t, r_55_20 hSP, rb_s, r_55_19 hSP, rb_s, k_66 hSP, ck_t, g_66 hSP, ik, ck_t, k_67 hSP, ck_t, g_67 hSP, ik, ck_t, tk, h8, P66, pk_sub (by omega), show cd + cl.length - cd = cl.length by omega]
      · rw [row_st (by omega), h3 b b1 (by omega)]
        exact rB b b1 b2
      · rw [mI_stI, if_neg (by omega), h4 f f1 f2 f3 f4 f5]
        exact fB f f1 f2 f3 f4 f5
      · rw [mI_stI, if_neg (by omega)]
        exact h6
      · rw [mI_stI, if_neg (by omega)]
        exact (congrFun (h3 b (by omega) (by omega)) i).trans (Bo b i b1 b2 hi)
      · rw [mI_stI, if_neg (by omega), h9 i hi]
        exact B68 i hi
      · rw [mI_stI, if_neg (by omega)]
        exact h8
      · rw [mI_stI, if_neg (by omega)]
        exact (congrFun (h3 64 (by decide) (by decide)) ix).trans B64
      · rw [mI_stI, if_neg (by omega)]
        exact (congrFun (h3 65 (by decide) (by decide)) ix).trans B65
      · rw [mI_stI, if_neg (by omega)]
        exact P66
      · rw [mI_stI, if_pos ⟨rfl, rfl⟩]
      · obtain ⟨c, c1, c2⟩ := h10 i hi
        refine ⟨c, c1, ?_⟩
        rw [mI_stI, if_neg (by omega)]
        exact c2
    have part : ∀ (P : Mem) (cl : List Nat) (aa : Nat) (r : Bool × Nat × Cl), MP B t tx cd P aa cl 0 → r.1 = false → r.2.1 = aa → MB M t ix cd P r := by
      intro P cl aa r hP hr hra
      obtain ⟨h1, h2, h3, h4, h5, h6, h7, h8, h9, h10⟩ := hP
      refine ⟨h1.trans (by rw [eB]; exact a2.1), h2.trans (by rw [eB]; exact a2.2.1), fun b b1 b2 => (h3 b b1 (by omega)).trans (rB b b1 b2), fun f f1 f2 f3 f4 f5 => (h4 f f1 f2 f3 f4 f5).trans (fB f f1 f2 f3 f4 f5), by rw [hra]; exact h5, by rw [hra]; exact h6, fun b i b1 b2 hi => (congrFun (h3 b (by omega) (by omega)) i).trans (Bo b i b1 b2 hi), fun i hi => (h9 i hi).trans (B68 i hi), cd + cl.length, by omega, h8, fun q => by rw [hr] at q; cases q⟩
    by_cases w2 : w = 2
    · subst w2
      rw [if_pos (by decide), if_pos rfl]
      obtain ⟨N, f1, f2⟩ := fin B [] (pNum t tx a).2.1 pB (by show 0 ≤ 100; omega)
      refine ⟨N, ?_, ?_⟩
      · rw [f1]
        show _ = some (b2 (pNum t tx a).1, N)
        rw [b2_t g]
      · unfold pBald
        rw [g]
        exact f2
    · rw [if_neg (by rw [show (2 : Int32) = nI 2 from rfl, leL (by omega) (by omega)]; omega), if_neg w2]
      obtain ⟨C, c1, c2⟩ := m_is eBM pB (x := 32) (by decide)
      have hSC := (MP_8 eBM c2).1
      have pw : pWord t tx [32] (pNum t tx a).2.1 = if nx t tx (pNum t tx a).2.1 = 32 then (true, (pNum t tx a).2.1 + 1) else (false, (pNum t tx a).2.1) := rfl
      unfold pBody
      rw [if_pos g, pw, c1, bd_s]
      by_cases g1 : nx t tx (pNum t tx a).2.1 = 32
      · rw [if_pos g1] at c2
        rw [if_pos g1, if_neg n10, if_pos g1, if_pos rfl]
        have := n4 g
        obtain ⟨f1, f2, f3, f4, f5⟩ := pE_rd (tx := tx) ht 4 ((pNum t tx a).2.1 + 1) c2.2.2.2.2.1
        obtain ⟨D, d1, d2⟩ := m_E4 eBM C ((pNum t tx a).2.1 + 1) [] c2 (Nat.zero_le _) (by omega)
        have d1' : fX12_isE C 55 = some (b2 (pE t tx 4 ((pNum t tx a).2.1 + 1)).1, D) := d1
        rw [List.nil_append] at d2
        rw [k_55 hSC, ck_t, d1', bd_s]
        by_cases g2 : (pE t tx 4 ((pNum t tx a).2.1 + 1)).1 = true
        · rw [b2_t g2, if_neg n10]
          obtain ⟨N, q1, q2⟩ := fin D _ _ d2 (by omega)
          refine ⟨N, ?_, ?_⟩
          · rw [q1]
          · show MB M t ix cd N ((pE t tx 4 ((pNum t tx a).2.1 + 1)).1, (pE t tx 4 ((pNum t tx a).2.1 + 1)).2.1, (w, (pNum t tx a).2.2, (pE t tx 4 ((pNum t tx a).2.1 + 1)).2.2))
            rw [g2]
            exact q2
        · rw [b2_f g2, if_pos rfl]
          exact ⟨D, rfl, part D _ _ _ d2 (by simpa using g2) rfl⟩
      · rw [if_neg g1] at c2
        rw [if_neg g1, if_pos rfl, if_neg g1, if_neg (fun q => by cases q)]
        exact ⟨C, rfl, part C _ _ _ c2 rfl rfl⟩
  · have gf : (pNum t tx a).1 = false := by simpa using g
    rw [b2_f g, if_pos rfl]
    by_cases w2 : w = 2
    · rw [if_pos w2]
      exact ⟨A, by unfold pBald; rw [gf]; rfl, MB_p a2 gf rfl⟩
    · rw [if_neg w2]
      unfold pBody
      rw [if_neg g]
      exact ⟨A, rfl, MB_p a2 rfl rfl⟩
/-- the clause's words as the model tells them -/
theorem pClause_m (a : Nat) : pClause t tx a = if nx t tx a = 100 then (if (pWord t tx [100, 114, 97, 119, 32] a).1 = true then pBody t tx 0 (pWord t tx [100, 114, 97, 119, 32] a).2 else (false, (pWord t tx [100, 114, 97, 119, 32] a).2, (0, 0, []))) else if nx t tx a = 98 then (if nx t tx (a + 2) = 108 then (if (pWord t tx [98, 97, 108, 100, 32] a).1 = true then pBald t tx (pWord t tx [98, 97, 108, 100, 32] a).2 else (false, (pWord t tx [98, 97, 108, 100, 32] a).2, (0, 0, []))) else (if (pWord t tx [98, 97, 114, 32] a).1 = true then pBody t tx 1 (pWord t tx [98, 97, 114, 32] a).2 else (false, (pWord t tx [98, 97, 114, 32] a).2, (0, 0, [])))) else (false, a, (0, 0, [])) := by
  unfold pClause
  by_cases g : nx t tx a = 100
  · rw [if_pos g, if_pos g]
  · rw [if_neg g, if_neg g]
    have u : ∀ (c : Int32) (w : List Int32) (b : Nat), pWord t tx (c :: w) b = if nx t tx b = c then pWord t tx w (b + 1) else (false, b) := fun _ _ _ => rfl
    by_cases g1 : nx t tx a = 98
    · by_cases g2 : nx t tx (a + 1) = 97
      · have e1 : pWord t tx [98, 97] a = (true, a + 2) := by
          rw [u, if_pos g1, u, if_pos g2]
          rfl
        have e2 : pWord t tx [98, 97, 108, 100, 32] a = pWord t tx [108, 100, 32] (a + 2) := by
          rw [u, if_pos g1, u, if_pos g2]
        have e3 : pWord t tx [98, 97, 114, 32] a = pWord t tx [114, 32] (a + 2) := by
          rw [u, if_pos g1, u, if_pos g2]
        rw [e1, e2, e3, if_pos rfl, if_pos g1]
        show (if nx t tx (a + 2) = 114 then _ else _) = _
        by_cases g3 : nx t tx (a + 2) = 108
        · rw [if_pos g3, if_neg (by rw [g3]; decide)]
        · rw [if_neg g3]
          by_cases g4 : nx t tx (a + 2) = 114
          · rw [if_pos g4]
          · rw [if_neg g4]
            have e4 : pWord t tx [108, 100, 32] (a + 2) = (false, a + 2) := by rw [u, if_neg g3]
            have e5 : pWord t tx [114, 32] (a + 2) = (false, a + 2) := by rw [u, if_neg g4]
            rw [e4, e5]
            rfl
      · have e1 : pWord t tx [98, 97] a = (false, a + 1) := by
          rw [u, if_pos g1, u, if_neg g2]
        have e2 : pWord t tx [98, 97, 108, 100, 32] a = (false, a + 1) := by
          rw [u, if_pos g1, u, if_neg g2]
        have e3 : pWord t tx [98, 97, 114, 32] a = (false, a + 1) := by
          rw [u, if_pos g1, u, if_neg g2]
        rw [e1, e2, e3, if_pos g1]
        show (false, a + 1, _) = if nx t tx (a + 2) = 108 then (false, a + 1, _) else (false, a + 1, _)
        split <;> rfl
    · have e1 : pWord t tx [98, 97] a = (false, a) := by rw [u, if_neg g1]
      rw [e1, if_neg g1]
      rfl
theorem m_clause {M : Mem} (e : ME M t tx cd) {a ix : Nat} (h10 : mI M 55 10 = nI a) (ha : a ≤ t) (h22 : mI M 55 22 = nI cd) (hx : ix < 61) : ∃ N, fX12_isClause M 55 (nI ix) = some (b2 (pClause t tx a).1, N) ∧ MB M t ix cd N (pClause t tx a) := by
  have ht1 := e.2.1
  have ht := e.2.2.1
  have hS := e.1
  have h8 := e.2.2.2.1
  have hr := e.2.2.2.2.1
  have hcd := e.2.2.2.2.2
  have p0 : MP M t tx cd M a [] (mI M 55 13) := ⟨rfl, rfl, fun _ _ _ => rfl, fun _ _ _ _ _ _ => rfl, ha, h10, rfl, h22, fun _ _ => rfl, fun i hi => absurd hi (Nat.not_lt_zero _)⟩
  have s1 : fX12_isClause M 55 (nI ix) = if nx t tx a = 100 then gX12_isClause_51 M 55 (nI ix) 0 else if nx t tx a = 98 then gX12_isClause_51 M 55 (nI ix) 1 else gX12_isClause_51 M 55 (nI ix) (-1) := by
    unfold fX12_isClause gX12_isClause_50
    rw [k_55 hS, ck_t, h8, h10]
    by_cases g : a < t
    · have en : nx t tx a = nI (tx a) := if_pos g
      rw [if_neg (by rw [leL (by omega) (by omega)]; omega), r_55_9 hS, rb_s, k_62 hS, ck_t, g_62 hS, inb_n (show a < 100 by omega) (by decide), ck_t, ck_t, tn (show a < 1000000 by omega), hr a g, en]
    · have en : nx t tx a = -1 := if_neg g
      rw [if_pos (by rw [leL (by omega) (by omega)]; omega), en, if_neg (by decide), if_neg (by decide)]
  have s2 : gX12_isClause_51 M 55 (nI ix) 1 = if nx t tx (a + 2) = 108 then gX12_isClause_87 M 55 (nI ix) 2 else gX12_isClause_87 M 55 (nI ix) 1 := by
    have e2 : nI a + 2 = nI (a + 2) := by rw [show (2 : Int32) = nI 2 from rfl, nI_add]
    unfold gX12_isClause_51
    rw [if_pos rfl, k_55 hS, ck_t, h8, h10, e2]
    by_cases g : a + 2 < t
    · have en : nx t tx (a + 2) = nI (tx (a + 2)) := if_pos g
      rw [if_neg (by rw [leL (by omega) (by omega)]; omega), r_55_9 hS, rb_s, k_62 hS, ck_t, g_62 hS, inb_n (show a + 2 < 100 by omega) (by decide), ck_t, tn (show a + 2 < 1000000 by omega), hr (a + 2) g, en]
    · have en : nx t tx (a + 2) = -1 := if_neg g
      rw [if_pos (by rw [leL (by omega) (by omega)]; omega), en, if_neg (by decide)]
  have s0 : gX12_isClause_51 M 55 (nI ix) 0 = gX12_isClause_87 M 55 (nI ix) 0 := by
    unfold gX12_isClause_51
    rw [if_neg (by decide)]
  have sm : gX12_isClause_51 M 55 (nI ix) (-1) = some (0, M) := by
    unfold gX12_isClause_51 gX12_isClause_87 gX12_isClause_132 gX12_isClause_133
    rw [if_neg (by decide), if_neg (by decide), if_neg (by decide), if_neg (by decide), if_pos rfl]
  rw [s1, pClause_m]
  by_cases g : nx t tx a = 100
  · rw [if_pos g, if_pos g, s0]
    obtain ⟨A, a1, a2⟩ := m_word e (j := 0) (by decide) p0
    have e0 : xByt.getD 0 [] = [100, 114, 97, 119, 32] := rfl
    rw [e0] at a1 a2
    unfold gX12_isClause_87
    rw [if_pos rfl, k_55 hS, ck_t, a1, bd_s]
    by_cases g1 : (pWord t tx [100, 114, 97, 119, 32] a).1 = true
    · rw [b2_t g1, if_pos g1]
      exact m_body e (w := 0) a2 (by omega) hx hcd
    · rw [b2_f g1, if_neg g1]
      unfold gX12_isClause_133
      rw [if_pos rfl]
      exact ⟨A, rfl, MB_p a2 rfl rfl⟩
  · rw [if_neg g, if_neg g]
    by_cases g1 : nx t tx a = 98
    · rw [if_pos g1, if_pos g1, s2]
      by_cases g2 : nx t tx (a + 2) = 108
      · rw [if_pos g2, if_pos g2]
        obtain ⟨A, a1, a2⟩ := m_word e (j := 9) (by decide) p0
        have e0 : xByt.getD 9 [] = [98, 97, 108, 100, 32] := rfl
        rw [e0] at a1 a2
        unfold gX12_isClause_87
        rw [if_neg (by decide), if_neg (by decide), if_pos rfl, k_55 hS, ck_t, a1, bd_s]
        by_cases g3 : (pWord t tx [98, 97, 108, 100, 32] a).1 = true
        · rw [b2_t g3, if_neg n10, if_pos g3]
          exact m_body e (w := 2) a2 (by omega) hx hcd
        · rw [b2_f g3, if_pos rfl, if_neg g3]
          unfold gX12_isClause_132 gX12_isClause_133
          rw [if_pos rfl]
          exact ⟨A, rfl, MB_p a2 rfl rfl⟩
      · rw [if_neg g2, if_neg g2]
        obtain ⟨A, a1, a2⟩ := m_word e (j := 8) (by decide) p0
        have e0 : xByt.getD 8 [] = [98, 97, 114, 32] := rfl
        rw [e0] at a1 a2
        unfold gX12_isClause_87
        rw [if_neg (by decide), if_pos rfl, k_55 hS, ck_t, a1, bd_s]
        by_cases g3 : (pWord t tx [98, 97, 114, 32] a).1 = true
        · rw [b2_t g3, if_pos g3]
          exact m_body e (w := 1) a2 (by omega) hx hcd
        · rw [b2_f g3, if_neg g3]
          unfold gX12_isClause_133
          rw [if_pos rfl]
          exact ⟨A, rfl, MB_p a2 rfl rfl⟩
    · rw [if_neg g1, if_neg g1, sm]
      exact ⟨M, rfl, MB_p p0 rfl rfl⟩
/-- what a statute's reading leaves of the memory M0; n statutes there were, cd0 codes -/
def MF (M0 : Mem) (n cd0 t : Nat) (M : Mem) (a cd : Nat) : Prop := M.1 = M0.1 ∧ M.2.2 = M0.2.2 ∧ (∀ b, b ≠ 55 → ¬ (64 ≤ b ∧ b ≤ 68) → M.2.1 b = M0.2.1 b) ∧ (∀ f, f ≠ 10 → f ≠ 11 → f ≠ 12 → f ≠ 13 → f ≠ 22 → mI M 55 f = mI M0 55 f) ∧ a ≤ t ∧ mI M 55 10 = nI a ∧ mI M 55 22 = nI cd ∧ cd0 ≤ cd ∧ (∀ b i, 64 ≤ b → b ≤ 67 → i < 10 * n → mI M b i = mI M0 b i) ∧ ∀ i, i < cd0 → mI M 68 i = mI M0 68 i
def MQx (M0 : Mem) (n cd0 t : Nat) (M : Mem) (a cd : Nat) (cl : List Cl) : Prop := MF M0 n cd0 t M a cd ∧ ∀ j c, cl[j]? = some c → MC M (10 * n + j) cd c
theorem MF_is {M0 M N : Mem} {n cd0 a b : Nat} {ov : Int32} (h : MF M0 n cd0 t M a cd) (k : MP M t tx cd N b [] ov) : MF M0 n cd0 t N b cd := by
  obtain ⟨h1, h2, h3, h4, h5, h6, h7, h8, h9, h10⟩ := h
  obtain ⟨k1, k2, k3, k4, k5, k6, k7, k8, k9, k10⟩ := k
  exact ⟨k1.trans h1, k2.trans h2, fun b b1 b2 => (k3 b b1 (by omega)).trans (h3 b b1 b2), fun f f1 f2 f3 f4 f5 => (k4 f f1 f2 f3 f4 f5).trans (h4 f f1 f2 f3 f4 f5), k5, k6, k8, h8, fun b i b1 b2 hi => (congrFun (k3 b (by omega) (by omega)) i).trans (h9 b i b1 b2 hi), fun i hi => (k9 i (by omega)).trans (h10 i hi)⟩
theorem MC_p {M N : Mem} {ix b : Nat} {ov : Int32} {c : Cl} (h : MC M ix cd c) (k : MP M t tx cd N b [] ov) : MC N ix cd c := by
  obtain ⟨h1, h2, bg, h3, h4, h5, h6⟩ := h
  obtain ⟨k1, k2, k3, k4, k5, k6, k7, k8, k9, k10⟩ := k
  have r : ∀ b i, b ≠ 55 → b ≠ 68 → mI N b i = mI M b i := fun b i b1 b2 => congrFun (k3 b b1 b2) i
  refine ⟨(r _ _ (by decide) (by decide)).trans h1, (r _ _ (by decide) (by decide)).trans h2, bg, h3, (r _ _ (by decide) (by decide)).trans h4, (r _ _ (by decide) (by decide)).trans h5, fun i hi => ?_⟩
  obtain ⟨x, x1, x2⟩ := h6 i hi
  exact ⟨x, x1, (k9 _ (by omega)).trans x2⟩
theorem m_loop {M0 : Mem} {n cd0 : Nat} (hS : Sh M0) (ht1 : t ≤ 100) (ht : ∀ i, i < t → tx i < 128) (h8 : mI M0 55 8 = nI t) (hr : ∀ i, i < t → mI M0 62 i = nI (tx i)) (h14 : mI M0 55 14 = nI n) (hn : n ≤ 5) (hc0 : cd0 ≤ 500) {was : Int32} : ∀ (k m a cd : Nat) (M : Mem) (cl : List Cl), cl.length + k = 10 → MQx M0 n cd0 t M a cd cl → cd ≤ cd0 + a → ∃ N cd' l2, gX12_statute_29 (m + k + 2) M 55 was (nI cl.length) 1 0 = gX12_statute_123 N 55 was l2 (b2 (pFrom t tx k a cl).1) ∧ MF M0 n cd0 t N (pFrom t tx k a cl).2.1 cd' ∧ ((pFrom t tx k a cl).1 = true → cd' ≤ cd0 + (pFrom t tx k a cl).2.1 ∧ l2 = nI (pFrom t tx k a cl).2.2.length ∧ MQx M0 n cd0 t N (pFrom t tx k a cl).2.1 cd' (pFrom t tx k a cl).2.2) := by
  intro k
  induction k with
  | zero =>
    intro m a cd M cl hl h hc
    have hl10 : cl.length = 10 := by omega
    refine ⟨M, cd, nI cl.length, ?_, h.1, fun q => by cases q⟩
    rw [gX12_statute_29_s, if_neg n10, if_pos rfl, hl10, if_pos (by decide)]
    unfold gX12_statute_64 gX12_statute_65
    rw [if_pos rfl, gX12_statute_29_s, if_pos rfl]
    rfl
  | succ k ih =>
    intro m a cd M cl hl h hc
    obtain ⟨⟨h1, h2, h3, h4, h5, h6, h7, h8', h9, h10⟩, hcl⟩ := id h
    have hSM : Sh M := Sh_1 h1 hS
    have eM : ME M t tx cd := ⟨hSM, ht1, ht, (h4 8 (by decide) (by decide) (by decide) (by decide) (by decide)).trans h8, fun i hi => (congrFun (h3 62 (by decide) (by omega)) i).trans (hr i hi), by omega⟩
    have e14 : mI M 55 14 = nI n := (h4 14 (by decide) (by decide) (by decide) (by decide) (by decide)).trans h14
    have eix : 10 * nI n + nI cl.length = nI (10 * n + cl.length) := by rw [show (10 : Int32) = nI 10 from rfl, pk_mul, nI_add]
    obtain ⟨A, a1, a2⟩ := m_clause eM (ix := 10 * n + cl.length) h6 h5 h7 (by omega)
    obtain ⟨b1, b2', b3, b4, b5, b6, b7, b8, cd', b9, b10, b11⟩ := a2
    have hSA : Sh A := Sh_1 b1 hSM
    obtain ⟨p1, p2, p3⟩ := pClause_in (tx := tx) ht h5
    have mfA : MF M0 n cd0 t A (pClause t tx a).2.1 cd' := ⟨b1.trans h1, b2'.trans h2, fun b c1 c2 => (b3 b c1 c2).trans (h3 b c1 c2), fun f f1 f2 f3 f4 f5 => (b4 f f1 f2 f3 f4 f5).trans (h4 f f1 f2 f3 f4 f5), b5, b6, b10, by omega, fun b i c1 c2 hi => (b7 b i c1 c2 (by omega)).trans (h9 b i c1 c2 hi), fun i hi => (b8 i (by omega)).trans (h10 i hi)⟩
    have fl : ∀ (P : Mem) (x : Nat) (cd2 : Nat) (l2 : Int32), MF M0 n cd0 t P x cd2 → ∃ N cd' l2', gX12_statute_29 (m + k + 2) P 55 was l2 0 0 = gX12_statute_123 N 55 was l2' (b2 false) ∧ MF M0 n cd0 t N x cd' := by
      intro P x cd2 l2 hP
      refine ⟨P, cd2, l2, ?_, hP⟩
      rw [gX12_statute_29_s, if_pos rfl]
      rfl
    rw [show m + (k + 1) + 2 = (m + k + 2) + 1 by omega, gX12_statute_29_s, if_neg n10, if_pos rfl, if_neg (by rw [show (10 : Int32) = nI 10 from rfl, leL (by omega) (by omega)]; omega), k_55 hSM, ck_t, e14, eix, a1, bd_s]
    unfold pFrom
    by_cases g : (pClause t tx a).1 = true
    · obtain ⟨o1, o2, o3, o4⟩ := p3 g
      obtain ⟨q1, q2⟩ := b11 g
      have mqA : MQx M0 n cd0 t A (pClause t tx a).2.1 cd' (cl ++ [(pClause t tx a).2.2]) := by
        refine ⟨mfA, fun j c hj => ?_⟩
        by_cases hj2 : j < cl.length
        · rw [List.getElem?_append_left hj2] at hj
          obtain ⟨u1, u2, bg, u3, u4, u5, u6⟩ := hcl j c hj
          refine ⟨(b7 _ _ (by omega) (by omega) (by omega)).trans u1, (b7 _ _ (by omega) (by omega) (by omega)).trans u2, bg, by omega, (b7 _ _ (by omega) (by omega) (by omega)).trans u4, (b7 _ _ (by omega) (by omega) (by omega)).trans u5, fun i hi => ?_⟩
          obtain ⟨x, x1, x2⟩ := u6 i hi
          exact ⟨x, x1, (b8 _ (by omega)).trans x2⟩
        · have hj3 : j = cl.length := by
            have := (List.getElem?_eq_some_iff.mp hj).1
            rw [List.length_append] at this
            have : j < cl.length + 1 := this
            omega
          subst hj3
          rw [List.getElem?_concat_length] at hj
          cases hj
          exact q2
      have e8A : mI A 55 8 = nI t := (mfA.2.2.2.1 8 (by decide) (by decide) (by decide) (by decide) (by decide)).trans h8
      rw [b2_t g, if_neg n10, if_pos g]
      unfold gX12_statute_65
      rw [if_neg n10, k_55 hSA, ck_t, b6, e8A, nI_1]
      by_cases g1 : nx t tx (pClause t tx a).2.1 = -1
      · have e1 : (pClause t tx a).2.1 = t := by
          apply Classical.byContradiction
          intro q
          have hlt : (pClause t tx a).2.1 < t := by omega
          have en : nx t tx (pClause t tx a).2.1 = nI (tx (pClause t tx a).2.1) := if_pos hlt
          have := ht _ hlt
          exact m1_ne (show tx (pClause t tx a).2.1 < 1000000 by omega) (en.symm.trans g1)
        rw [if_pos (by rw [e1]), if_pos g1]
        unfold gX12_statute_92 gX12_statute_114 gX12_statute_119
        rw [if_neg n10, gX12_statute_29_s, if_neg n10, if_neg n10]
        exact ⟨A, cd', _, rfl, mfA, fun _ => ⟨by show cd' ≤ cd0 + (pClause t tx a).2.1; omega, by show nI (cl.length + 1) = nI (cl ++ [(pClause t tx a).2.2]).length; rw [List.length_append]; rfl, mqA⟩⟩
      · have hlt := nx_lt g1
        rw [if_neg (by rw [eqL (by omega) (by omega)]; omega), if_neg g1]
        unfold gX12_statute_92
        rw [if_pos rfl]
        have bad : (10 : Int32) ≤ nI (cl.length + 1) ↔ k = 0 := by
          rw [show (10 : Int32) = nI 10 from rfl, leL (by omega) (by omega)]
          omega
        by_cases g2 : k = 0
        · rw [if_pos (bad.mpr g2)]
          unfold gX12_statute_118 gX12_statute_119
          obtain ⟨N, c2, l2, f1, f2⟩ := fl A (pClause t tx a).2.1 cd' (nI (cl.length + 1)) mfA
          rw [f1]
          by_cases g3 : nx t tx (pClause t tx a).2.1 = 59
          · rw [if_pos g3, if_pos g2]
            exact ⟨N, c2, l2, rfl, f2, fun q => by cases q⟩
          · rw [if_neg g3]
            exact ⟨N, c2, l2, rfl, f2, fun q => by cases q⟩
        · rw [if_neg (fun q => g2 (bad.mp q))]
          have eA : ME A t tx cd' := ⟨hSA, ht1, ht, e8A, fun i hi => (congrFun (mfA.2.2.1 62 (by decide) (by omega)) i).trans (hr i hi), by omega⟩
          have pA : MP A t tx cd' A (pClause t tx a).2.1 [] (mI A 55 13) := ⟨rfl, rfl, fun _ _ _ => rfl, fun _ _ _ _ _ _ => rfl, b5, b6, rfl, b10, fun _ _ => rfl, fun i hi => absurd hi (Nat.not_lt_zero _)⟩
          obtain ⟨B, c1, c2⟩ := m_is eA pA (x := 59) (by decide)
          have mfB := MF_is mfA c2
          rw [k_55 hSA, ck_t, c1, bd_s]
          by_cases g3 : nx t tx (pClause t tx a).2.1 = 59
          · rw [if_pos g3] at c2 mfB
            rw [if_pos g3, if_neg n10, if_pos g3, if_neg g2]
            unfold gX12_statute_114 gX12_statute_119
            have l1 : (cl ++ [(pClause t tx a).2.2]).length = cl.length + 1 := by rw [List.length_append]; rfl
            have := ih m ((pClause t tx a).2.1 + 1) cd' B (cl ++ [(pClause t tx a).2.2]) (by rw [l1]; omega) ⟨mfB, fun j c hj => MC_p (mqA.2 j c hj) c2⟩ (by omega)
            rw [l1] at this
            exact this
          · rw [if_neg g3] at mfB
            rw [if_neg g3, if_pos rfl, if_neg g3]
            unfold gX12_statute_118 gX12_statute_119
            obtain ⟨N, c3, l2, f1, f2⟩ := fl B (pClause t tx a).2.1 cd' (nI (cl.length + 1)) mfB
            rw [f1]
            exact ⟨N, c3, l2, rfl, f2, fun q => by cases q⟩
    · rw [b2_f g, if_pos rfl, if_neg g]
      unfold gX12_statute_64 gX12_statute_65
      rw [if_pos rfl]
      obtain ⟨N, c3, l2, f1, f2⟩ := fl A (pClause t tx a).2.1 cd' (nI cl.length) mfA
      rw [f1]
      exact ⟨N, c3, l2, rfl, f2, fun q => by cases q⟩
end MCL
