/-! ===== statute ===== -/
/-- the class reads a text from its beginning -/
theorem c_from {M : Mem} {s t : Nat} {tx : Nat → Nat} (k1 : isK M s 7 = true) (k2 : isK M (s + 1) 14 = true) (k3 : mG M (s + 1) = 100) (k4 : mR M s 0 = some (s + 1)) (k5 : isK M 13 13 = true) (k6 : mG M 13 = 100) (hs : s ≠ 13 ∧ s + 1 ≠ 13) (ht1 : t ≤ 100) (ht : ∀ i, i < t → tx i < 128) (hr : ∀ i, i < t → mI M 13 i = nI (tx i)) : ∃ N, fX7_readFrom M s 13 (nI t) = some (b2 (pFrom t tx 10 0 []).1, N) ∧ N.1 = (stR M s 3 (some 13)).1 ∧ N.2.2 = M.2.2 ∧ (∀ b, b ≠ s → b ≠ s + 1 → N.2.1 b = M.2.1 b) ∧ mI N s 5 = nI (pFrom t tx 10 0 []).2.1 ∧ ((pFrom t tx 10 0 []).1 = true → mI N s 2 = clsB 95 (pFrom t tx 10 0 []).2.2 ∧ mI N s 1 = nI (clsS (pFrom t tx 10 0 []).2.2).length ∧ (clsS (pFrom t tx 10 0 []).2.2).length ≤ 100 ∧ ∀ i, i < (clsS (pFrom t tx 10 0 []).2.2).length → ∃ c, (clsS (pFrom t tx 10 0 []).2.2)[i]? = some c ∧ mI N (s + 1) i = nI c) := by
  obtain ⟨A, eA⟩ : ∃ A, A = stI (stI (stI (stR M s 3 (some 13)) s 4 (nI t)) s 1 0) s 2 95 := ⟨_, rfl⟩
  have kA : isK A s 7 = true := by rw [eA]; exact k1
  have A4 : mI (stI A s 5 0) s 4 = nI t := by rw [mI_stI, if_neg (by omega), eA, mI_stI, if_neg (by omega), mI_stI, if_neg (by omega), mI_stI, if_pos ⟨rfl, rfl⟩]
  have rA : ∀ b, b ≠ s → A.2.1 b = M.2.1 b := fun b hb => by rw [eA, row_st hb, row_st hb, row_st hb]; rfl
  obtain ⟨B, eB⟩ : ∃ B, B = stI (stI A s 5 0) s 6 (nx t tx 0) := ⟨_, rfl⟩
  have g1 : fX7_goTo A s 0 = some ((), B) := by
    unfold fX7_goTo
    rw [kA, ck_t, if_neg (by decide), A4, eB]
    by_cases g : 0 < t
    · have e13 : mI (stI A s 5 0) 13 0 = nx t tx 0 := by
        rw [mI_stI, if_neg (by omega)]
        have : mI A 13 0 = mI M 13 0 := congrFun (rA 13 (by omega)) 0
        rw [this, hr 0 g]
        exact (if_pos g).symm
      have r3 : mR (stI A s 5 0) s 3 = some 13 := by
        rw [mR_stI, eA, mR_stI, mR_stI, mR_stI, mR_stR, if_pos ⟨rfl, rfl⟩]
      have k13 : isK (stI A s 5 0) 13 13 = true := by rw [isK_stI, eA]; exact k5
      have g13 : mG (stI A s 5 0) 13 = 100 := by rw [mG_stI, eA]; exact k6
      rw [if_neg (by rw [show (0 : Int32) = nI 0 from rfl, leL (by omega) (by omega)]; omega), r3, rb_s, k13, ck_t, g13, show inb (0 : Int32) 100 = true by decide, ck_t, tl0, e13]
    · have : nx t tx 0 = -1 := if_neg g
      rw [if_pos (by rw [show (0 : Int32) = nI 0 from rfl, leL (by omega) (by omega)]; omega), this]
  have B1 : B.1 = (stR M s 3 (some 13)).1 := by rw [eB, eA]; rfl
  have rB : ∀ b, b ≠ s → B.2.1 b = M.2.1 b := fun b hb => by rw [eB, row_st hb, row_st hb]; exact rA b hb
  have R0 : ∀ a i, ¬ (a = s ∧ i = 3) → mR B a i = mR M a i := fun a i hh => by
    have : mR B a i = mR (stR M s 3 (some 13)) a i := by unfold mR; rw [B1]
    rw [this, mR_stR, if_neg hh]
  have ce : CE B s t tx := ⟨by rw [eB, eA]; exact k1, by rw [R0 _ _ (by omega)]; exact k4, by rw [eB, eA]; exact k2, by rw [eB, eA]; exact k3, by rw [show mR B s 3 = mR (stR M s 3 (some 13)) s 3 by unfold mR; rw [B1], mR_stR, if_pos ⟨rfl, rfl⟩], by rw [eB, eA]; exact k5, by rw [eB, eA]; exact k6, hs, ht1, ht, fun i hi => (congrFun (rB 13 (by omega)) i).trans (hr i hi)⟩
  have cp : CP B s t tx B 0 (clsS []) (clsB 95 []) := by
    refine ⟨rfl, rfl, fun _ _ _ => rfl, Nat.zero_le _, ?_, ?_, ?_, ?_, ?_, fun i hi => absurd hi (Nat.not_lt_zero _)⟩
    · rw [eB, mI_stI, if_neg (by omega)]
      exact A4
    · rw [eB, mI_stI, if_neg (by omega), mI_stI, if_pos ⟨rfl, rfl⟩]
      rfl
    · rw [eB, mI_stI, if_pos ⟨rfl, rfl⟩]
    · rw [eB, mI_stI, if_neg (by omega), mI_stI, if_neg (by omega), eA, mI_stI, if_pos ⟨rfl, rfl⟩]
      rfl
    · rw [eB, mI_stI, if_neg (by omega), mI_stI, if_neg (by omega), eA, mI_stI, if_neg (by omega), mI_stI, if_pos ⟨rfl, rfl⟩]
      rfl
  obtain ⟨m, hm⟩ := FUs 10 (by decide)
  obtain ⟨N, n1, ss, bv, n2, n3⟩ := c_fromL ce 10 m 0 B [] (Nat.le_refl _) cp (Nat.zero_le _)
  rw [← hm] at n1
  refine ⟨N, ?_, n2.1.trans B1, n2.2.1.trans (by rw [eB, eA]; rfl), fun b b1 b2 => (n2.2.2.1 b b1 b2).trans (rB b b1), n2.2.2.2.2.2.1, fun q => ?_⟩
  · unfold fX7_readFrom
    rw [k1, ck_t, ← eA, g1, bd_s]
    exact n1
  · obtain ⟨q1, q2⟩ := n3 q
    rw [q1, q2] at n2
    refine ⟨n2.2.2.2.2.2.2.2.1, n2.2.2.2.2.2.2.2.2.1, ?_, n2.2.2.2.2.2.2.2.2.2⟩
    have key : ∀ (n a : Nat) (cl : List Cl), a ≤ t → (clsS cl).length ≤ a → (pFrom t tx n a cl).1 = true → (clsS (pFrom t tx n a cl).2.2).length ≤ t := by
      intro n
      induction n with
      | zero => intro a cl _ _ q; cases q
      | succ n ih =>
        intro a cl ha hl q
        obtain ⟨p1, p2, p3⟩ := pClause_in (tx := tx) ht ha
        unfold pFrom at q ⊢
        by_cases g : (pClause t tx a).1 = true
        · obtain ⟨o1, o2, o3, o4⟩ := p3 g
          rw [if_pos g] at q ⊢
          by_cases w1 : nx t tx (pClause t tx a).2.1 = -1
          · rw [if_pos w1]
            show (clsS (cl ++ [(pClause t tx a).2.2])).length ≤ t
            rw [clsS_a, List.length_append]
            omega
          · rw [if_neg w1] at q ⊢
            by_cases w2 : nx t tx (pClause t tx a).2.1 = 59
            · rw [if_pos w2] at q ⊢
              by_cases w3 : n = 0
              · rw [if_pos w3] at q
                cases q
              · rw [if_neg w3] at q ⊢
                have := nx_lt w1
                exact ih _ _ (by omega) (by rw [clsS_a, List.length_append]; omega) q
            · rw [if_neg w2] at q
              cases q
        · rw [if_neg g] at q
          cases q
    have := key 10 0 [] (Nat.zero_le _) (Nat.zero_le _) q
    omega
set_option maxHeartbeats 2000000 in
theorem m_statute {M : Mem} {n : Nat} (h : Inv M n) : Ok1 (fun M => fX11_statute M 0) (fun M => fX12_statute M 55) M := by
  have hS := h.1
  obtain ⟨w1, w2, w3, w4, w5, ⟨w6, w7, w8, w9⟩, ⟨cd, cd1, cd2⟩, w11⟩ := id h.2.2.1
  by_cases n6 : n = 6
  · subst n6
    refine Ok_m h (a := -4) ?_ ?_
    · show fX11_statute M 0 = _
      unfold fX11_statute
      rw [k_0 hS, ck_t, w2, if_neg (by decide)]
    · show fX12_statute M 55 = _
      unfold fX12_statute
      rw [k_55 hS, ck_t, w3, if_pos (by decide)]
  have hn : n < 6 := by omega
  obtain ⟨t, t100, e1, e2, er⟩ := id h.2.2.2.2.1
  obtain ⟨tx, etx⟩ : ∃ tx : Nat → Nat, tx = fun i => (mI M 13 i).toNatClampNeg := ⟨_, rfl⟩
  have htx : ∀ i, i < t → tx i < 128 ∧ mI M 13 i = nI (tx i) ∧ mI M 62 i = nI (tx i) := by
    intro i hi
    obtain ⟨b, b1, b2, b3⟩ := er i hi
    have : tx i = b := by rw [etx]; show (mI M 13 i).toNatClampNeg = b; rw [b2, tn (by omega)]
    rw [this]
    exact ⟨b1, b2, b3⟩
  obtain ⟨s, es⟩ : ∃ s, s = sidO (n + 1) := ⟨_, rfl⟩
  rw [← es] at w5 w6 w7 w8 w9
  have hs14 : s = 14 ∨ 85 ≤ s := by
    have := sid_s hn
    omega
  have hsn : s + 1 < 85 + 2 * n := by
    have := sid_s hn
    omega
  obtain ⟨N, n1, n2, n3, n4, n5, n6'⟩ := c_from (tx := tx) w6 w8 w9 w7 (k_13 hS) (g_13 hS) (by omega) t100 (fun i hi => (htx i hi).1) (fun i hi => (htx i hi).2.1)
  obtain ⟨R, eR⟩ : ∃ R, R = pFrom t tx 10 0 [] := ⟨_, rfl⟩
  obtain ⟨rt, rok⟩ := pFrom_in (tx := tx) (fun i hi => (htx i hi).1) 10 0 [] (Nat.zero_le _) (fun c hc => by cases hc) (by show 0 + 10 ≤ 10; omega)
  rw [← eR] at n1 n5 n6' rt rok
  -- the class, behind its reading
  obtain ⟨A, eA⟩ : ∃ A, A = stI N 0 11 0 := ⟨_, rfl⟩
  have A1 : A.1 = (stR M s 3 (some 13)).1 := by rw [eA]; exact n2
  have AR : ∀ a i, ¬ (a = s ∧ i = 3) → mR A a i = mR M a i := fun a i hh => by
    have : mR A a i = mR (stR M s 3 (some 13)) a i := by unfold mR; rw [A1]
    rw [this, mR_stR, if_neg hh]
  have AN : mN A = 85 + 2 * n := by
    have : mN A = mN M := by unfold mN; rw [A1]; rfl
    rw [this, w4]
  have AK : ∀ a, mK A a = mK M a := fun a => by unfold mK; rw [A1]; rfl
  have AG : ∀ a, mG A a = mG M a := fun a => by unfold mG; rw [A1]; rfl
  have hSA : Sh A := Sh_g hS (by rw [AN, w4]; exact Nat.le_refl _) (fun a _ => AK a) (fun a _ => AG a) (fun a i _ _ _ a4 => AR a i (by omega))
  have hSN : Sh N := by
    have : Sh (stI N 0 11 0) := by rw [← eA]; exact hSA
    exact this
  have AkK : ∀ a c, isK A a c = isK M a c := fun a c => by
    have : mN A = mN M := by unfold mN; rw [A1]; rfl
    unfold isK
    rw [this, AK]
  have rA : ∀ b, b ≠ 0 → b ≠ s → b ≠ s + 1 → A.2.1 b = M.2.1 b := fun b b1 b2 b3 => by rw [eA, row_st b1]; exact n4 b b2 b3
  have rAI : ∀ b i, b ≠ 0 → b ≠ s → b ≠ s + 1 → mI A b i = mI M b i := fun b i b1 b2 b3 => congrFun (rA b b1 b2 b3) i
  have rA0 : ∀ f, f ≠ 11 → mI A 0 f = mI M 0 f := fun f hf => by
    rw [eA, mI_stI, if_neg (by omega)]
    exact congrFun (n4 0 (by omega) (by omega)) f
  have A2 : A.2.2 = M.2.2 := by rw [eA]; exact n3
  have e55 : ∀ f, mI A 55 f = mI M 55 f := fun f => rAI 55 f (by omega) (by omega) (by omega)
  have lt6 : nI n < 6 := by
    rw [show (6 : Int32) = nI 6 from rfl, ltL (by omega) (by omega)]
    exact hn
  have ne6 : ¬ nI n = 6 := by
    rw [show (6 : Int32) = nI 6 from rfl, eqL (by omega) (by omega)]
    exact n6
  -- the model reads, in a memory F behind the class's
  have mdl : ∀ F, Sh F → (∀ f, mI F 55 f = mI M 55 f) → F.2.1 62 = M.2.1 62 → ∃ P cd' l2, fX12_statute F 55 = gX12_statute_123 P 55 (nI cd) l2 (b2 R.1) ∧ MF (stI F 55 10 0) n cd t P R.2.1 cd' ∧ (R.1 = true → cd' ≤ cd + R.2.1 ∧ l2 = nI R.2.2.length ∧ MQx (stI F 55 10 0) n cd t P R.2.1 cd' R.2.2) := by
    intro F hF f55 f62
    have hF0 : Sh (stI F 55 10 0) := Sh_1 rfl hF
    have g : ∀ f, f ≠ 10 → mI (stI F 55 10 0) 55 f = mI M 55 f := fun f hf => by rw [mI_stI, if_neg (by omega)]; exact f55 f
    obtain ⟨m, hm⟩ := FUs 11 (by decide)
    obtain ⟨P, cd', l2, p1, p2, p3⟩ := m_loop (tx := tx) (was := nI cd) hF0 t100 (fun i hi => (htx i hi).1) ((g 8 (by decide)).trans e2) (fun i hi => by rw [mI_stI, if_neg (by omega)]; exact (congrFun f62 i).trans (htx i hi).2.2) ((g 14 (by decide)).trans w3) (by omega) (by omega) 10 m 0 cd (stI F 55 10 0) [] rfl ⟨⟨rfl, rfl, fun _ _ _ => rfl, fun _ _ _ _ _ _ => rfl, Nat.zero_le _, by rw [mI_stI, if_pos ⟨rfl, rfl⟩]; rfl, (g 22 (by decide)).trans cd2, Nat.le_refl _, fun _ _ _ _ _ => rfl, fun _ _ => rfl⟩, fun j c hj => by cases hj⟩ (by omega)
    rw [← eR] at p1 p2 p3
    refine ⟨P, cd', l2, ?_, p2, p3⟩
    unfold fX12_statute
    rw [k_55 hF, ck_t, f55 14, w3, if_neg ne6, f55 22, cd2, hm, show m + 11 + 1 = m + 10 + 2 by omega]
    exact p1
  by_cases g : R.1 = true
  · -- a good text
    obtain ⟨c1, c2, c3, c4⟩ := n6' g
    obtain ⟨ok, ol⟩ := rok g
    obtain ⟨b, eb⟩ : ∃ b, b = 85 + 2 * n := ⟨_, rfl⟩
    have ANb : mN A = b := by rw [AN, eb]
    obtain ⟨B, eB⟩ : ∃ B, B = stR A 31 1 (some s) := ⟨_, rfl⟩
    obtain ⟨C, eC⟩ : ∃ C, C = alc B 7 0 := ⟨_, rfl⟩
    obtain ⟨D, eD⟩ : ∃ D, D = alc C 14 100 := ⟨_, rfl⟩
    obtain ⟨E, eE⟩ : ∃ E, E = stI (stR D b 0 (some (b + 1))) b 2 95 := ⟨_, rfl⟩
    obtain ⟨F, eF⟩ : ∃ F, F = stI (stR E 0 12 (some b)) 0 13 (nI (n + 1)) := ⟨_, rfl⟩
    have BN : mN B = b := by rw [eB]; exact ANb
    have CN : mN C = b + 1 := by rw [eC, mN_alc, BN]
    have DN : mN D = b + 2 := by rw [eD, mN_alc, CN]
    have FN : mN F = b + 2 := by rw [eF, mN_stI, mN_stR, eE, mN_stI, mN_stR, DN]
    have FK : ∀ a, mK F a = if a = b + 1 then 14 else if a = b then 7 else mK M a := fun a => by
      rw [eF, mK_stI, mK_stR, eE, mK_stI, mK_stR, eD, mK_alc, CN, eC, mK_alc, BN, eB, mK_stR, AK]
    have FG : ∀ a, mG F a = if a = b + 1 then 100 else if a = b then 0 else mG M a := fun a => by
      rw [eF, mG_stI, mG_stR, eE, mG_stI, mG_stR, eD, mG_alc, CN, eC, mG_alc, BN, eB, mG_stR, AG]
    have FR : ∀ a i, a < b → ¬ (a = s ∧ i = 3) → ¬ (a = 31 ∧ i = 1) → ¬ (a = 0 ∧ i = 12) → mR F a i = mR M a i := fun a i a1 a2 a3 a4 => by
      rw [eF, mR_stI, mR_stR, if_neg a4, eE, mR_stI, mR_stR, if_neg (by omega), eD, mR_alc, CN, if_neg (by omega), eC, mR_alc, BN, if_neg (by omega), eB, mR_stR, if_neg a3]
      exact AR a i a2
    have FR31 : mR F 31 1 = some s := by
      rw [eF, mR_stI, mR_stR, if_neg (by omega), eE, mR_stI, mR_stR, if_neg (by omega), eD, mR_alc, CN, if_neg (by omega), eC, mR_alc, BN, if_neg (by omega), eB, mR_stR, if_pos ⟨rfl, rfl⟩]
    have FR0 : mR F 0 12 = some b := by rw [eF, mR_stI, mR_stR, if_pos ⟨rfl, rfl⟩]
    have FRb : mR F b 0 = some (b + 1) := by rw [eF, mR_stI, mR_stR, if_neg (by omega), eE, mR_stI, mR_stR, if_pos ⟨rfl, rfl⟩]
    have FI : ∀ r i, r < b → r ≠ 0 → mI F r i = mI A r i := fun r i r1 r2 => by
      rw [eF, mI_stI, if_neg (by omega), mI_stR, eE, mI_stI, if_neg (by omega), mI_stR, eD, mI_alc, CN, if_neg (by omega), eC, mI_alc, BN, if_neg (by omega), eB, mI_stR]
    have FI0 : ∀ f, f ≠ 13 → mI F 0 f = mI A 0 f := fun f hf => by
      rw [eF, mI_stI, if_neg (by omega), mI_stR, eE, mI_stI, if_neg (by omega), mI_stR, eD, mI_alc, CN, if_neg (by omega), eC, mI_alc, BN, if_neg (by omega), eB, mI_stR]
    have FI13 : mI F 0 13 = nI (n + 1) := by rw [eF, mI_stI, if_pos ⟨rfl, rfl⟩]
    have FL : ∀ r i, r < b → mL F r i = mL M r i := fun r i r1 => by
      rw [eF, mL_stI, mL_stR, eE, mL_stI, mL_stR, eD, mL_alc, CN, if_neg (by omega), eC, mL_alc, BN, if_neg (by omega), eB, mL_stR]
      exact congrFun (congrFun A2 r) i
    have FkK : ∀ a c, a < b → isK F a c = isK M a c := fun a c ha => by
      unfold isK
      rw [FN, FK, if_neg (by omega), if_neg (by omega), w4, decide_eq_true (show a < b + 2 by omega), decide_eq_true (show a < 85 + 2 * n by omega)]
    have hSF : Sh F := Sh_g hS (by rw [FN, w4]; omega) (fun a ha => by rw [FK, if_neg (by omega), if_neg (by omega)]) (fun a ha => by rw [FG, if_neg (by omega), if_neg (by omega)]) (fun a i a1 a2 a3 a4 => FR a i (by omega) (by omega) (by omega) a3)
    have f55 : ∀ f, mI F 55 f = mI M 55 f := fun f => (FI 55 f (by omega) (by omega)).trans (e55 f)
    have f62 : F.2.1 62 = M.2.1 62 := by
      funext i
      exact (FI 62 i (by omega) (by omega)).trans (rAI 62 i (by omega) (by omega) (by omega))
    have cls : fX11_statute M 0 = some (nI n, F) := by
      have hSE : Sh E := by
        have : Sh (stI (stR E 0 12 (some b)) 0 13 (nI (n + 1))) := by rw [← eF]; exact hSF
        refine Sh_g hSA ?_ (fun a ha => ?_) (fun a ha => ?_) (fun a i a1 a2 a3 a4 => ?_)
        · rw [eE, mN_stI, mN_stR, DN, ANb]
          omega
        · rw [eE, mK_stI, mK_stR, eD, mK_alc, CN, if_neg (by omega), eC, mK_alc, BN, if_neg (by omega), eB, mK_stR]
        · rw [eE, mG_stI, mG_stR, eD, mG_alc, CN, if_neg (by omega), eC, mG_alc, BN, if_neg (by omega), eB, mG_stR]
        · rw [eE, mR_stI, mR_stR, if_neg (by omega), eD, mR_alc, CN, if_neg (by omega), eC, mR_alc, BN, if_neg (by omega), eB, mR_stR, if_neg (by omega)]
      have kD : isK D b 7 = true := by
        unfold isK
        rw [DN, eD, mK_alc, CN, if_neg (by omega), eC, mK_alc, BN, if_pos rfl, decide_eq_true (show b < b + 2 by omega)]
        rfl
      have i1 : fX7_init C b = some ((), E) := by
        unfold fX7_init
        rw [nm_s, ← eD, kD, ck_t, CN, ← eE]
      have E13 : mI (stR E 0 12 (some b)) 0 13 = nI n := by
        rw [mI_stR, eE, mI_stI, if_neg (by omega), mI_stR, eD, mI_alc, CN, if_neg (by omega), eC, mI_alc, BN, if_neg (by omega), eB, mI_stR, rA0 13 (by decide)]
        exact w2
      have r12 : mR A 0 12 = some s := (AR 0 12 (by omega)).trans w5
      unfold fX11_statute
      rw [k_0 hS, ck_t, w2, if_pos lt6, w5, rb_s, r_0_10 hS, rb_s, w6, ck_t, e1, n1, bd_s, b2_t g, k_0 hSN, ck_t, if_neg n10, ← eA, r_0_0 hSA, rb_s, r12, rb_s, k_31 hSA, ck_t, nm_s, ← eB, BN, ← eC, i1, bd_s, k_0 hSE, ck_t, nm_s, E13, nI_1, ← eF, k_0 hSF, ck_t, FI13, nI_pred]
    obtain ⟨P, cd', l2, p1, p2, p3⟩ := mdl F hSF f55 f62
    obtain ⟨q1, q2, q3⟩ := p3 g
    obtain ⟨h1, h2, h3, h4, h5, h6, h7, h8, h9, h10⟩ := p2
    have hSP : Sh P := Sh_1 h1 (Sh_1 rfl hSF)
    have P14 : mI P 55 14 = nI n := by
      rw [h4 14 (by decide) (by decide) (by decide) (by decide) (by decide), mI_stI, if_neg (by omega), f55]
      exact w3
    obtain ⟨U, eU⟩ : ∃ U, U = stI (stI P 55 8 0) 63 n l2 := ⟨_, rfl⟩
    have U14 : mI U 55 14 = nI n := by rw [eU, mI_stI, if_neg (by omega), mI_stI, if_neg (by omega)]; exact P14
    obtain ⟨W, eW⟩ : ∃ W, W = stI U 55 15 (nI n) := ⟨_, rfl⟩
    have W14 : mI W 55 14 = nI n := by rw [eW, mI_stI, if_neg (by omega)]; exact U14
    obtain ⟨Q, eQ⟩ : ∃ Q, Q = stI W 55 14 (nI (n + 1)) := ⟨_, rfl⟩
    have mdl2 : fX12_statute F 55 = some (nI n, Q) := by
      have hP0 : Sh (stI P 55 8 0) := Sh_1 rfl hSP
      have hW : Sh W := by rw [eW, eU]; exact Sh_1 rfl hSP
      have u14 : mI (stI P 55 8 0) 55 14 = nI n := by rw [mI_stI, if_neg (by omega)]; exact P14
      rw [p1]
      unfold gX12_statute_123
      rw [k_55 hSP, ck_t, b2_t g, if_neg n10, r_55_16 hP0, rb_s, k_63 hP0, ck_t, g_63 hP0, u14, inb_n hn (by decide), ck_t, nm_s, tn (show n < 1000000 by omega), ← eU, U14, ← eW, k_55 hW, ck_t, W14, nI_1, ← eQ]
    have Q1 : Q.1 = F.1 := by rw [eQ, eW, eU]; exact h1
    have Q2 : Q.2.2 = F.2.2 := by rw [eQ, eW, eU]; exact h2
    have rQ : ∀ r i, r ≠ 55 → ¬ (63 ≤ r ∧ r ≤ 68) → mI Q r i = mI F r i := fun r i r1 r2 => by
      rw [eQ, mI_stI, if_neg (by omega), eW, mI_stI, if_neg (by omega), eU, mI_stI, if_neg (by omega), mI_stI, if_neg (by omega)]
      have : mI P r i = mI (stI F 55 10 0) r i := congrFun (h3 r r1 (by omega)) i
      rw [this, mI_stI, if_neg (by omega)]
    have rQ6 : ∀ r i, 64 ≤ r → r ≤ 68 → mI Q r i = mI P r i := fun r i r1 r2 => by
      rw [eQ, mI_stI, if_neg (by omega), eW, mI_stI, if_neg (by omega), eU, mI_stI, if_neg (by omega), mI_stI, if_neg (by omega)]
    have rQ63 : ∀ i, mI Q 63 i = if i = n then l2 else mI M 63 i := fun i => by
      rw [eQ, mI_stI, if_neg (by omega), eW, mI_stI, if_neg (by omega), eU, mI_stI]
      by_cases gi : i = n
      · rw [if_pos ⟨rfl, gi⟩, if_pos gi]
      · rw [if_neg (by omega), if_neg gi, mI_stI, if_neg (by omega)]
        have : mI P 63 i = mI (stI F 55 10 0) 63 i := congrFun (h3 63 (by omega) (by omega)) i
        rw [this, mI_stI, if_neg (by omega)]
        exact (FI 63 i (by omega) (by omega)).trans (rAI 63 i (by omega) (by omega) (by omega))
    have fQ : ∀ f, f ≠ 8 → f ≠ 10 → f ≠ 11 → f ≠ 12 → f ≠ 13 → f ≠ 14 → f ≠ 15 → f ≠ 22 → mI Q 55 f = mI M 55 f := fun f f1 f2 f3 f4 f5 f6 f7 f8 => by
      rw [eQ, mI_stI, if_neg (by omega), eW, mI_stI, if_neg (by omega), eU, mI_stI, if_neg (by omega), mI_stI, if_neg (by omega), h4 f f2 f3 f4 f5 f8, mI_stI, if_neg (by omega)]
      exact f55 f
    have Q14 : mI Q 55 14 = nI (n + 1) := by rw [eQ, mI_stI, if_pos ⟨rfl, rfl⟩]
    have Q15 : mI Q 55 15 = nI n := by rw [eQ, mI_stI, if_neg (by omega), eW, mI_stI, if_pos ⟨rfl, rfl⟩]
    have Q8 : mI Q 55 8 = 0 := by rw [eQ, mI_stI, if_neg (by omega), eW, mI_stI, if_neg (by omega), eU, mI_stI, if_neg (by omega), mI_stI, if_pos ⟨rfl, rfl⟩]
    have Q22 : mI Q 55 22 = nI cd' := by
      rw [eQ, mI_stI, if_neg (by omega), eW, mI_stI, if_neg (by omega), eU, mI_stI, if_neg (by omega), mI_stI, if_neg (by omega)]
      exact h7
    have QM : ∀ r i, r < b → r ≠ 0 → r ≠ s → r ≠ s + 1 → r ≠ 55 → ¬ (63 ≤ r ∧ r ≤ 68) → mI Q r i = mI M r i := fun r i r1 r2 r3 r4 r5 r6 => ((rQ r i r5 r6).trans (FI r i r1 r2)).trans (rAI r i r2 r3 r4)
    have QMr : ∀ r, r < b → r ≠ 0 → r ≠ s → r ≠ s + 1 → r ≠ 55 → ¬ (63 ≤ r ∧ r ≤ 68) → Q.2.1 r = M.2.1 r := fun r r1 r2 r3 r4 r5 r6 => by
      funext i
      exact QM r i r1 r2 r3 r4 r5 r6
    have QR : ∀ a i, mR Q a i = mR F a i := fun a i => by unfold mR; rw [Q1]
    have QkK : ∀ a c, isK Q a c = isK F a c := fun a c => by unfold isK mN mK; rw [Q1]
    have QG : ∀ a, mG Q a = mG F a := fun a => by unfold mG; rw [Q1]
    have hSQ : Sh Q := Sh_1 Q1 hSF
    have Mreg : ∀ r i, 64 ≤ r → r ≤ 67 → i < 10 * n → mI Q r i = mI M r i := fun r i r1 r2 hi => by
      rw [rQ6 r i r1 (by omega), h9 r i r1 r2 hi, mI_stI, if_neg (by omega)]
      exact (FI r i (by omega) (by omega)).trans (rAI r i (by omega) (by omega) (by omega))
    have Mreg68 : ∀ i, i < cd → mI Q 68 i = mI M 68 i := fun i hi => by
      rw [rQ6 68 i (by omega) (by omega), h10 i hi, mI_stI, if_neg (by omega)]
      exact (FI 68 i (by omega) (by omega)).trans (rAI 68 i (by omega) (by omega) (by omega))
    have sid2 : sidO (n + 2) = b := by
      unfold sidO
      rw [if_neg (by omega), if_neg (by omega), eb]
      omega
    obtain ⟨bd9, bd1, bd2⟩ := clsB_n R.2.2 95 (by omega) ok
    have Qs : ∀ i, mI Q s i = mI A s i := fun i => (rQ s i (by omega) (by omega)).trans (FI s i (by omega) (by omega))
    have Qs1 : ∀ i, mI Q (s + 1) i = mI A (s + 1) i := fun i => (rQ (s + 1) i (by omega) (by omega)).trans (FI (s + 1) i (by omega) (by omega))
    have As : ∀ i, mI A s i = mI N s i := fun i => by rw [eA, mI_stI, if_neg (by omega)]
    have As1 : ∀ i, mI A (s + 1) i = mI N (s + 1) i := fun i => by rw [eA, mI_stI, if_neg (by omega)]
    refine ⟨nI n, F, Q, n + 1, k_55 hSF, cls, mdl2, Inv_st (s := s) h (by omega) hs14 hSQ (fun r r1 r2 r3 r4 r5 r6 => QMr r (by omega) r2 r3 r4 r5 r6) (fun f f1 f2 => ?_) fQ (fun r hr => ?_) ?_ ⟨n + 1, Nat.le_refl _, ?_, ?_⟩ ⟨0, by omega, ?_, ?_, fun i hi => absurd hi (Nat.not_lt_zero _)⟩ ⟨by omega, ?_, Q14, ?_, ?_, ⟨?_, ?_, ?_, ?_⟩, ⟨cd', by omega, Q22⟩, fun k hk => ?_⟩⟩
    · exact ((rQ 0 f (by omega) (by omega)).trans (FI0 f f2)).trans (rA0 f f1)
    · rw [Q2]
      funext i
      exact FL r i (by omega)
    · rw [QR]
      exact FR 47 1 (by omega) (by omega) (by omega) (by omega)
    · rw [QR, FR31, es]
    · rw [Q15]
      unfold hI
      rw [if_neg (by omega)]
      rfl
    · rw [rQ 0 11 (by omega) (by omega), FI0 11 (by decide), eA, mI_stI, if_pos ⟨rfl, rfl⟩]
      rfl
    · rw [Q8]
      rfl
    · rw [rQ 0 13 (by omega) (by omega)]
      exact FI13
    · have : mN Q = mN F := by unfold mN; rw [Q1]
      rw [this, FN]
      omega
    · rw [QR, FR0, sid2]
    · rw [sid2, QkK]
      unfold isK
      rw [FN, FK, if_neg (by omega), if_pos rfl, decide_eq_true (show b < b + 2 by omega)]
      rfl
    · rw [sid2, QR]
      exact FRb
    · rw [sid2, QkK]
      unfold isK
      rw [FN, FK, if_pos rfl, decide_eq_true (show b + 1 < b + 2 by omega)]
      rfl
    · rw [sid2, QG, FG, if_pos rfl]
    · by_cases gk : k = n + 1
      · subst gk
        rw [← es]
        refine ⟨fun F => lsum F R.2.2 0, bd9, bd1, ?_, ?_⟩
        · have e2b : mI Q s 2 = nI bd9 := by rw [Qs, As, c1, show (95 : Int32) = nI 95 from rfl, bd2]
          rw [← e2b]
          refine Sqh_new hs14 (by rw [QkK, FkK s 7 (by omega)]; exact w6) (by rw [QkK, FkK (s + 1) 14 (by omega)]; exact w8) (by rw [QG, FG, if_neg (by omega), if_neg (by omega)]; exact w9) (by rw [QR, FR s 0 (by omega) (by omega) (by omega) (by omega)]; exact w7) c3 (by rw [Qs, As]; exact c2) (fun i hi => ?_) ok
          obtain ⟨x, x1, x2⟩ := c4 i hi
          exact ⟨x, x1, by rw [Qs1, As1]; exact x2⟩
        · have e5 : hI (n + 1) = nI n := by
            unfold hI
            rw [if_neg (by omega)]
            rfl
          rw [e5, ← bd2]
          refine Mqh_new (cd := cd') ⟨hn, ol, by omega, ?_, fun i c hi => ?_, ok⟩ Q14 Q22
          · rw [rQ63, if_pos rfl]
            exact q2
          · obtain ⟨u1, u2, bg, u3, u4, u5, u6⟩ := q3.2 i c hi
            refine ⟨(rQ6 _ _ (by omega) (by omega)).trans u1, (rQ6 _ _ (by omega) (by omega)).trans u2, bg, u3, (rQ6 _ _ (by omega) (by omega)).trans u4, (rQ6 _ _ (by omega) (by omega)).trans u5, fun j hj => ?_⟩
            obtain ⟨x, x1, x2⟩ := u6 j hj
            exact ⟨x, x1, (rQ6 _ _ (by omega) (by omega)).trans x2⟩
      · obtain ⟨lw, bv, v1, v2, v3⟩ := w11 k (by omega)
        obtain ⟨sf1, sf2, sf3, sf4, sf5⟩ := sid_f (show k ≤ n by omega) hn
        rw [← es] at sf1 sf2 sf3
        refine ⟨lw, bv, v1, Sqh_c v2 ?_ ?_ ?_ ?_ (QMr _ (by omega) (by omega) (by omega) (by omega) (by omega) (by omega)) (QMr _ (by omega) (by omega) (by omega) (by omega) (by omega) (by omega)), Mqh_r v3 w3 Q14 cd2 Q22 (by omega) (by omega) (by omega) (by omega) (fun i hi => by rw [rQ63, if_neg (by omega)]) Mreg Mreg68⟩
        · rw [QkK, FkK _ _ (by omega)]
          exact v2.1
        · rw [QkK, FkK _ _ (by omega)]
          exact v2.2.2.2.1
        · rw [QG, FG, if_neg (by omega), if_neg (by omega)]
          exact v2.2.2.2.2.1
        · rw [QR, FR _ _ (by omega) (by omega) (by omega) (by omega)]
          exact v2.2.2.2.2.2.1
  · -- a fault
    have f62 : A.2.1 62 = M.2.1 62 := rA 62 (by omega) (by omega) (by omega)
    obtain ⟨P, cd', l2, p1, p2, -⟩ := mdl A hSA e55 f62
    obtain ⟨h1, h2, h3, h4, h5, h6, h7, h8, h9, h10⟩ := p2
    have hSP : Sh P := Sh_1 h1 (Sh_1 rfl hSA)
    have A5 : mI A s 5 = nI R.2.1 := by rw [eA, mI_stI, if_neg (by omega)]; exact n5
    have cls : fX11_statute M 0 = some (-10 - nI R.2.1, A) := by
      have r12 : mR A 0 12 = some s := (AR 0 12 (by omega)).trans w5
      have kA : isK A s 7 = true := (AkK s 7).trans w6
      unfold fX11_statute
      rw [k_0 hS, ck_t, w2, if_pos lt6, w5, rb_s, r_0_10 hS, rb_s, w6, ck_t, e1, n1, bd_s, b2_f g, k_0 hSN, ck_t, if_pos rfl, ← eA, r12, rb_s, kA, ck_t, A5]
    obtain ⟨Q, eQ⟩ : ∃ Q, Q = stI (stI P 55 8 0) 55 22 (nI cd) := ⟨_, rfl⟩
    have Q10 : mI Q 55 10 = nI R.2.1 := by rw [eQ, mI_stI, if_neg (by omega), mI_stI, if_neg (by omega)]; exact h6
    have mdl2 : fX12_statute A 55 = some (-10 - nI R.2.1, Q) := by
      rw [p1]
      unfold gX12_statute_123
      rw [k_55 hSP, ck_t, b2_f g, if_pos rfl, ← eQ, Q10]
    have Q1 : Q.1 = A.1 := by rw [eQ]; exact h1
    have Q2 : Q.2.2 = A.2.2 := by rw [eQ]; exact h2
    have rQ : ∀ r i, r ≠ 55 → ¬ (64 ≤ r ∧ r ≤ 68) → mI Q r i = mI A r i := fun r i r1 r2 => by
      rw [eQ, mI_stI, if_neg (by omega), mI_stI, if_neg (by omega)]
      have : mI P r i = mI (stI A 55 10 0) r i := congrFun (h3 r r1 (by omega)) i
      rw [this, mI_stI, if_neg (by omega)]
    have rQ6 : ∀ r i, 64 ≤ r → r ≤ 68 → mI Q r i = mI P r i := fun r i r1 r2 => by
      rw [eQ, mI_stI, if_neg (by omega), mI_stI, if_neg (by omega)]
    have fQ : ∀ f, f ≠ 8 → f ≠ 10 → f ≠ 11 → f ≠ 12 → f ≠ 13 → f ≠ 22 → mI Q 55 f = mI M 55 f := fun f f1 f2 f3 f4 f5 f8 => by
      rw [eQ, mI_stI, if_neg (by omega), mI_stI, if_neg (by omega), h4 f f2 f3 f4 f5 f8, mI_stI, if_neg (by omega)]
      exact e55 f
    have Q14 : mI Q 55 14 = nI n := (fQ 14 (by decide) (by decide) (by decide) (by decide) (by decide) (by decide)).trans w3
    have Q22 : mI Q 55 22 = nI cd := by rw [eQ, mI_stI, if_pos ⟨rfl, rfl⟩]
    have QM : ∀ r i, r ≠ 0 → r ≠ s → r ≠ s + 1 → r ≠ 55 → ¬ (64 ≤ r ∧ r ≤ 68) → mI Q r i = mI M r i := fun r i r2 r3 r4 r5 r6 => (rQ r i r5 r6).trans (rAI r i r2 r3 r4)
    have QMr : ∀ r, r ≠ 0 → r ≠ s → r ≠ s + 1 → r ≠ 55 → ¬ (64 ≤ r ∧ r ≤ 68) → Q.2.1 r = M.2.1 r := fun r r2 r3 r4 r5 r6 => by
      funext i
      exact QM r i r2 r3 r4 r5 r6
    have QR : ∀ a i, ¬ (a = s ∧ i = 3) → mR Q a i = mR M a i := fun a i hh => by
      have : mR Q a i = mR A a i := by unfold mR; rw [Q1]
      rw [this]
      exact AR a i hh
    have QkK : ∀ a c, isK Q a c = isK M a c := fun a c => by
      have : isK Q a c = isK A a c := by unfold isK mN mK; rw [Q1]
      rw [this, AkK]
    have QG : ∀ a, mG Q a = mG M a := fun a => by
      have : mG Q a = mG A a := by unfold mG; rw [Q1]
      rw [this, AG]
    have hSQ : Sh Q := Sh_1 Q1 hSA
    obtain ⟨k0, k01, k02, k03⟩ := h.2.1.2.2.2.1
    refine ⟨-10 - nI R.2.1, A, Q, n, k_55 hSA, cls, mdl2, Inv_st (s := s) h (Nat.le_refl _) hs14 hSQ (fun r r1 r2 r3 r4 r5 r6 => QMr r r2 r3 r4 r5 (by omega)) (fun f f1 f2 => (rQ 0 f (by omega) (by omega)).trans (rA0 f f1)) (fun f f1 f2 f3 f4 f5 _ _ f8 => fQ f f1 f2 f3 f4 f5 f8) (fun r hr => by rw [Q2, A2]) (QR 47 1 (by omega)) ⟨k0, k01, (QR 31 1 (by omega)).trans k02, (fQ 15 (by decide) (by decide) (by decide) (by decide) (by decide) (by decide)).trans k03⟩ ⟨0, by omega, ?_, ?_, fun i hi => absurd hi (Nat.not_lt_zero _)⟩ ⟨w1, ?_, Q14, ?_, ?_, ⟨?_, ?_, ?_, ?_⟩, ⟨cd, cd1, Q22⟩, fun k hk => ?_⟩⟩
    · rw [rQ 0 11 (by omega) (by omega), eA, mI_stI, if_pos ⟨rfl, rfl⟩]
      rfl
    · rw [eQ, mI_stI, if_neg (by omega), mI_stI, if_pos ⟨rfl, rfl⟩]
      rfl
    · exact ((rQ 0 13 (by omega) (by omega)).trans (rA0 13 (by decide))).trans w2
    · have : mN Q = mN A := by unfold mN; rw [Q1]
      rw [this, AN]
    · rw [← es, QR 0 12 (by omega)]
      exact w5
    · rw [← es, QkK]
      exact w6
    · rw [← es, QR s 0 (by omega)]
      exact w7
    · rw [← es, QkK]
      exact w8
    · rw [← es, QG]
      exact w9
    · obtain ⟨lw, bv, v1, v2, v3⟩ := w11 k hk
      obtain ⟨sf1, sf2, sf3, sf4, sf5⟩ := sid_f hk hn
      rw [← es] at sf1 sf2 sf3
      refine ⟨lw, bv, v1, Sqh_c v2 (by rw [QkK]; exact v2.1) (by rw [QkK]; exact v2.2.2.2.1) (by rw [QG]; exact v2.2.2.2.2.1) (by rw [QR _ _ (by omega)]; exact v2.2.2.2.2.2.1) (QMr _ (by omega) (by omega) (by omega) (by omega) (by omega)) (QMr _ (by omega) (by omega) (by omega) (by omega) (by omega)), Mqh_r v3 w3 Q14 cd2 Q22 (Nat.le_refl _) (by omega) (Nat.le_refl _) (by omega) (fun i hi => QM 63 i (by omega) (by omega) (by omega) (by omega) (by omega)) (fun r i r1 r2 hi => ?_) (fun i hi => ?_)⟩
      · rw [rQ6 r i (by omega) (by omega), h9 r i (by omega) r2 hi, mI_stI, if_neg (by omega)]
        exact rAI r i (by omega) (by omega) (by omega)
      · rw [rQ6 68 i (by omega) (by omega), h10 i hi, mI_stI, if_neg (by omega)]
        exact rAI 68 i (by omega) (by omega) (by omega)
